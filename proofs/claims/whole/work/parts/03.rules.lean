section ZR
variable {ω : Wl} {d : Nat} {M : Mt} {pc : Nat} {ls : List (Nat × Value)} {st : List Value} {I : Ii} {J : Jj} {Q : Qt}
theorem g_iconst {n : Int} {v : Int32} (hd : decode M.2.1 pc = .ok (.iconst n, 1)) (hv : Int32.ofInt n = v) (h : Go ω d M (pc + 1) ls (.int v :: st) I J Q) : Go ω d M pc ls (st) I J Q :=
  fun E p e s m args below meth c H arr locs hH hL hP hC hS => lv_iconst hH.1 hH.2.1 hd hv (h E p e s m args below meth c H arr locs hH hL hP hC hS)
theorem g_bipush {n : Int} {v : Int32} (hd : decode M.2.1 pc = .ok (.bipush n, 2)) (hv : (Int8.ofInt n).toInt32 = v) (h : Go ω d M (pc + 2) ls (.int v :: st) I J Q) : Go ω d M pc ls (st) I J Q :=
  fun E p e s m args below meth c H arr locs hH hL hP hC hS => lv_bipush hH.1 hH.2.1 hd hv (h E p e s m args below meth c H arr locs hH hL hP hC hS)
theorem g_sipush {n : Int} {v : Int32} (hd : decode M.2.1 pc = .ok (.sipush n, 3)) (hv : (Int16.ofInt n).toInt32 = v) (h : Go ω d M (pc + 3) ls (.int v :: st) I J Q) : Go ω d M pc ls (st) I J Q :=
  fun E p e s m args below meth c H arr locs hH hL hP hC hS => lv_sipush hH.1 hH.2.1 hd hv (h E p e s m args below meth c H arr locs hH hL hP hC hS)
theorem g_lconst {n : Fin 2} {v : Int64} (hd : decode M.2.1 pc = .ok (.lconst n, 1)) (hv : Int64.ofNat (n : Nat) = v) (h : Go ω d M (pc + 1) ls (.long v :: st) I J Q) : Go ω d M pc ls (st) I J Q :=
  fun E p e s m args below meth c H arr locs hH hL hP hC hS => lv_lconst hH.1 hH.2.1 hd hv (h E p e s m args below meth c H arr locs hH hL hP hC hS)
theorem g_null  (hd : decode M.2.1 pc = .ok (.aconst_null, 1)) (h : Go ω d M (pc + 1) ls (.null :: st) I J Q) : Go ω d M pc ls (st) I J Q :=
  fun E p e s m args below meth c H arr locs hH hL hP hC hS => lv_null hH.1 hH.2.1 hd (h E p e s m args below meth c H arr locs hH hL hP hC hS)
theorem g_ldc {i : Nat} {v : Int32} (hd : decode M.2.1 pc = .ok (.ldc i, 2)) (hw : Cond.constant M.1.cls i v ∈ z_Tg) (h : Go ω d M (pc + 2) ls (.int v :: st) I J Q) : Go ω d M pc ls (st) I J Q :=
  fun E p e s m args below meth c H arr locs hH hL hP hC hS => lv_ldc hH.1 hH.2.1 hH.2.2.2.2.1 (hH.2.2.2.2.2.1 _ (List.mem_cons_of_mem _ hw)) hd (h E p e s m args below meth c H arr locs hH hL hP hC hS)
theorem g_ldcw {i : Nat} {v : Int32} (hd : decode M.2.1 pc = .ok (.ldc_w i, 3)) (hw : Cond.constant M.1.cls i v ∈ z_Tg) (h : Go ω d M (pc + 3) ls (.int v :: st) I J Q) : Go ω d M pc ls (st) I J Q :=
  fun E p e s m args below meth c H arr locs hH hL hP hC hS => lv_ldcw hH.1 hH.2.1 hH.2.2.2.2.1 (hH.2.2.2.2.2.1 _ (List.mem_cons_of_mem _ hw)) hd (h E p e s m args below meth c H arr locs hH hL hP hC hS)
theorem g_ldc2 {i : Nat} {v : Int64} (hd : decode M.2.1 pc = .ok (.ldc2_w i, 3)) (hw : Cond.constantLong M.1.cls i v ∈ z_Tg) (h : Go ω d M (pc + 3) ls (.long v :: st) I J Q) : Go ω d M pc ls (st) I J Q :=
  fun E p e s m args below meth c H arr locs hH hL hP hC hS => lv_ldc2 hH.1 hH.2.1 hH.2.2.2.2.1 (hH.2.2.2.2.2.1 _ (List.mem_cons_of_mem _ hw)) hd (h E p e s m args below meth c H arr locs hH hL hP hC hS)
theorem g_iadd {x y : Int32} (hd : decode M.2.1 pc = .ok (.iadd, 1)) (h : Go ω d M (pc + 1) ls (.int (x + y) :: st) I J Q) : Go ω d M pc ls (.int y :: .int x :: st) I J Q :=
  fun E p e s m args below meth c H arr locs hH hL hP hC hS => lv_iadd hH.1 hH.2.1 hd (h E p e s m args below meth c H arr locs hH hL hP hC hS)
theorem g_isub {x y : Int32} (hd : decode M.2.1 pc = .ok (.isub, 1)) (h : Go ω d M (pc + 1) ls (.int (x - y) :: st) I J Q) : Go ω d M pc ls (.int y :: .int x :: st) I J Q :=
  fun E p e s m args below meth c H arr locs hH hL hP hC hS => lv_isub hH.1 hH.2.1 hd (h E p e s m args below meth c H arr locs hH hL hP hC hS)
theorem g_imul {x y : Int32} (hd : decode M.2.1 pc = .ok (.imul, 1)) (h : Go ω d M (pc + 1) ls (.int (x * y) :: st) I J Q) : Go ω d M pc ls (.int y :: .int x :: st) I J Q :=
  fun E p e s m args below meth c H arr locs hH hL hP hC hS => lv_imul hH.1 hH.2.1 hd (h E p e s m args below meth c H arr locs hH hL hP hC hS)
theorem g_iand {x y : Int32} (hd : decode M.2.1 pc = .ok (.iand, 1)) (h : Go ω d M (pc + 1) ls (.int (x &&& y) :: st) I J Q) : Go ω d M pc ls (.int y :: .int x :: st) I J Q :=
  fun E p e s m args below meth c H arr locs hH hL hP hC hS => lv_iand hH.1 hH.2.1 hd (h E p e s m args below meth c H arr locs hH hL hP hC hS)
theorem g_ior {x y : Int32} (hd : decode M.2.1 pc = .ok (.ior, 1)) (h : Go ω d M (pc + 1) ls (.int (x ||| y) :: st) I J Q) : Go ω d M pc ls (.int y :: .int x :: st) I J Q :=
  fun E p e s m args below meth c H arr locs hH hL hP hC hS => lv_ior hH.1 hH.2.1 hd (h E p e s m args below meth c H arr locs hH hL hP hC hS)
theorem g_ixor {x y : Int32} (hd : decode M.2.1 pc = .ok (.ixor, 1)) (h : Go ω d M (pc + 1) ls (.int (x ^^^ y) :: st) I J Q) : Go ω d M pc ls (.int y :: .int x :: st) I J Q :=
  fun E p e s m args below meth c H arr locs hH hL hP hC hS => lv_ixor hH.1 hH.2.1 hd (h E p e s m args below meth c H arr locs hH hL hP hC hS)
theorem g_ishl {x y : Int32} (hd : decode M.2.1 pc = .ok (.ishl, 1)) (h : Go ω d M (pc + 1) ls (.int (x <<< (y &&& 31)) :: st) I J Q) : Go ω d M pc ls (.int y :: .int x :: st) I J Q :=
  fun E p e s m args below meth c H arr locs hH hL hP hC hS => lv_ishl hH.1 hH.2.1 hd (h E p e s m args below meth c H arr locs hH hL hP hC hS)
theorem g_ishr {x y : Int32} (hd : decode M.2.1 pc = .ok (.ishr, 1)) (h : Go ω d M (pc + 1) ls (.int (x >>> (y &&& 31)) :: st) I J Q) : Go ω d M pc ls (.int y :: .int x :: st) I J Q :=
  fun E p e s m args below meth c H arr locs hH hL hP hC hS => lv_ishr hH.1 hH.2.1 hd (h E p e s m args below meth c H arr locs hH hL hP hC hS)
theorem g_iushr {x y : Int32} (hd : decode M.2.1 pc = .ok (.iushr, 1)) (h : Go ω d M (pc + 1) ls (.int (x.toUInt32 >>> (y.toUInt32 &&& Int32.toUInt32 31)).toInt32 :: st) I J Q) : Go ω d M pc ls (.int y :: .int x :: st) I J Q :=
  fun E p e s m args below meth c H arr locs hH hL hP hC hS => lv_iushr hH.1 hH.2.1 hd rfl (h E p e s m args below meth c H arr locs hH hL hP hC hS)
theorem g_idiv {x y : Int32} (hd : decode M.2.1 pc = .ok (.idiv, 1)) (hy : ¬ y = 0) (h : Go ω d M (pc + 1) ls (.int (x / y) :: st) I J Q) : Go ω d M pc ls (.int y :: .int x :: st) I J Q :=
  fun E p e s m args below meth c H arr locs hH hL hP hC hS => lv_idiv hH.1 hH.2.1 hd hy (h E p e s m args below meth c H arr locs hH hL hP hC hS)
theorem g_irem {x y : Int32} (hd : decode M.2.1 pc = .ok (.irem, 1)) (hy : ¬ y = 0) (h : Go ω d M (pc + 1) ls (.int (x - x / y * y) :: st) I J Q) : Go ω d M pc ls (.int y :: .int x :: st) I J Q :=
  fun E p e s m args below meth c H arr locs hH hL hP hC hS => lv_irem hH.1 hH.2.1 hd hy (h E p e s m args below meth c H arr locs hH hL hP hC hS)
theorem g_ineg {x : Int32} (hd : decode M.2.1 pc = .ok (.ineg, 1)) (h : Go ω d M (pc + 1) ls (.int (-x) :: st) I J Q) : Go ω d M pc ls (.int x :: st) I J Q :=
  fun E p e s m args below meth c H arr locs hH hL hP hC hS => lv_ineg hH.1 hH.2.1 hd (h E p e s m args below meth c H arr locs hH hL hP hC hS)
theorem g_ladd {x y : Int64} (hd : decode M.2.1 pc = .ok (.ladd, 1)) (h : Go ω d M (pc + 1) ls (.long (x + y) :: st) I J Q) : Go ω d M pc ls (.long y :: .long x :: st) I J Q :=
  fun E p e s m args below meth c H arr locs hH hL hP hC hS => lv_ladd hH.1 hH.2.1 hd (h E p e s m args below meth c H arr locs hH hL hP hC hS)
theorem g_lsub {x y : Int64} (hd : decode M.2.1 pc = .ok (.lsub, 1)) (h : Go ω d M (pc + 1) ls (.long (x - y) :: st) I J Q) : Go ω d M pc ls (.long y :: .long x :: st) I J Q :=
  fun E p e s m args below meth c H arr locs hH hL hP hC hS => lv_lsub hH.1 hH.2.1 hd (h E p e s m args below meth c H arr locs hH hL hP hC hS)
theorem g_lmul {x y : Int64} (hd : decode M.2.1 pc = .ok (.lmul, 1)) (h : Go ω d M (pc + 1) ls (.long (x * y) :: st) I J Q) : Go ω d M pc ls (.long y :: .long x :: st) I J Q :=
  fun E p e s m args below meth c H arr locs hH hL hP hC hS => lv_lmul hH.1 hH.2.1 hd (h E p e s m args below meth c H arr locs hH hL hP hC hS)
theorem g_land {x y : Int64} (hd : decode M.2.1 pc = .ok (.land, 1)) (h : Go ω d M (pc + 1) ls (.long (x &&& y) :: st) I J Q) : Go ω d M pc ls (.long y :: .long x :: st) I J Q :=
  fun E p e s m args below meth c H arr locs hH hL hP hC hS => lv_land hH.1 hH.2.1 hd (h E p e s m args below meth c H arr locs hH hL hP hC hS)
theorem g_ldiv {x y : Int64} (hd : decode M.2.1 pc = .ok (.ldiv, 1)) (hy : ¬ y = 0) (h : Go ω d M (pc + 1) ls (.long (x / y) :: st) I J Q) : Go ω d M pc ls (.long y :: .long x :: st) I J Q :=
  fun E p e s m args below meth c H arr locs hH hL hP hC hS => lv_ldiv hH.1 hH.2.1 hd hy (h E p e s m args below meth c H arr locs hH hL hP hC hS)
theorem g_lrem {x y : Int64} (hd : decode M.2.1 pc = .ok (.lrem, 1)) (hy : ¬ y = 0) (h : Go ω d M (pc + 1) ls (.long (x - x / y * y) :: st) I J Q) : Go ω d M pc ls (.long y :: .long x :: st) I J Q :=
  fun E p e s m args below meth c H arr locs hH hL hP hC hS => lv_lrem hH.1 hH.2.1 hd hy (h E p e s m args below meth c H arr locs hH hL hP hC hS)
theorem g_lcmp {x y : Int64} (hd : decode M.2.1 pc = .ok (.lcmp, 1)) (h : Go ω d M (pc + 1) ls (.int (lg_cmp x y) :: st) I J Q) : Go ω d M pc ls (.long y :: .long x :: st) I J Q :=
  fun E p e s m args below meth c H arr locs hH hL hP hC hS => W.lcmp hH.1 hH.2.1 hd (h E p e s m args below meth c H arr locs hH hL hP hC hS)
theorem g_i2l {x : Int32} (hd : decode M.2.1 pc = .ok (.i2l, 1)) (h : Go ω d M (pc + 1) ls (.long x.toInt64 :: st) I J Q) : Go ω d M pc ls (.int x :: st) I J Q :=
  fun E p e s m args below meth c H arr locs hH hL hP hC hS => lv_i2l hH.1 hH.2.1 hd rfl (h E p e s m args below meth c H arr locs hH hL hP hC hS)
theorem g_l2i {x : Int64} (hd : decode M.2.1 pc = .ok (.l2i, 1)) (h : Go ω d M (pc + 1) ls (.int x.toInt32 :: st) I J Q) : Go ω d M pc ls (.long x :: st) I J Q :=
  fun E p e s m args below meth c H arr locs hH hL hP hC hS => lv_l2i hH.1 hH.2.1 hd rfl (h E p e s m args below meth c H arr locs hH hL hP hC hS)
theorem g_dup {v : Value} (hd : decode M.2.1 pc = .ok (.dup, 1)) (hv : v.category = 1) (h : Go ω d M (pc + 1) ls (v :: v :: st) I J Q) : Go ω d M pc ls (v :: st) I J Q :=
  fun E p e s m args below meth c H arr locs hH hL hP hC hS => lv_dup hH.1 hH.2.1 hd ((z_cat E v).trans hv) (h E p e s m args below meth c H arr locs hH hL hP hC hS)
theorem g_pop {v : Value} (hd : decode M.2.1 pc = .ok (.pop, 1)) (hv : v.category = 1) (h : Go ω d M (pc + 1) ls (st) I J Q) : Go ω d M pc ls (v :: st) I J Q :=
  fun E p e s m args below meth c H arr locs hH hL hP hC hS => lv_pop hH.1 hH.2.1 hd ((z_cat E v).trans hv) (h E p e s m args below meth c H arr locs hH hL hP hC hS)
theorem g_dup_x1 {v w : Value} (hd : decode M.2.1 pc = .ok (.dup_x1, 1)) (hv : v.category = 1) (hw : w.category = 1) (h : Go ω d M (pc + 1) ls (v :: w :: v :: st) I J Q) : Go ω d M pc ls (v :: w :: st) I J Q :=
  fun E p e s m args below meth c H arr locs hH hL hP hC hS => lv_dup_x1 hH.1 hH.2.1 hd ((z_cat E v).trans hv) ((z_cat E w).trans hw) (h E p e s m args below meth c H arr locs hH hL hP hC hS)
theorem g_dup_x2 {v w u : Value} (hd : decode M.2.1 pc = .ok (.dup_x2, 1)) (hv : v.category = 1) (hw : w.category = 1) (hu : u.category = 1) (h : Go ω d M (pc + 1) ls (v :: w :: u :: v :: st) I J Q) : Go ω d M pc ls (v :: w :: u :: st) I J Q :=
  fun E p e s m args below meth c H arr locs hH hL hP hC hS => lv_dup_x2 hH.1 hH.2.1 hd ((z_cat E v).trans hv) ((z_cat E w).trans hw) ((z_cat E u).trans hu) (h E p e s m args below meth c H arr locs hH hL hP hC hS)
theorem g_dup2_11 {v w : Value} (hd : decode M.2.1 pc = .ok (.dup2, 1)) (hv : v.category = 1) (hw : w.category = 1) (h : Go ω d M (pc + 1) ls (v :: w :: v :: w :: st) I J Q) : Go ω d M pc ls (v :: w :: st) I J Q :=
  fun E p e s m args below meth c H arr locs hH hL hP hC hS => lv_dup2_11 hH.1 hH.2.1 hd ((z_cat E v).trans hv) ((z_cat E w).trans hw) (h E p e s m args below meth c H arr locs hH hL hP hC hS)
theorem g_dup2_2 {v : Value} (hd : decode M.2.1 pc = .ok (.dup2, 1)) (hv : v.category = 2) (h : Go ω d M (pc + 1) ls (v :: v :: st) I J Q) : Go ω d M pc ls (v :: st) I J Q :=
  fun E p e s m args below meth c H arr locs hH hL hP hC hS => lv_dup2_2 hH.1 hH.2.1 hd ((z_cat E v).trans hv) (h E p e s m args below meth c H arr locs hH hL hP hC hS)
theorem g_dup2_x1_2 {v w : Value} (hd : decode M.2.1 pc = .ok (.dup2_x1, 1)) (hv : v.category = 2) (hw : w.category = 1) (h : Go ω d M (pc + 1) ls (v :: w :: v :: st) I J Q) : Go ω d M pc ls (v :: w :: st) I J Q :=
  fun E p e s m args below meth c H arr locs hH hL hP hC hS => lv_dup2_x1_2 hH.1 hH.2.1 hd ((z_cat E v).trans hv) ((z_cat E w).trans hw) (h E p e s m args below meth c H arr locs hH hL hP hC hS)
theorem z_at {ls : List (Nat × Value)} {E : En} {arr : Array Slot} {n j i : Nat} {v : Value} (hL : lv_has arr n (ls.map (z_lv E))) (hj : ls[j]? = some (i, v)) : arr[i]? = some (.val (z_rv E v)) := lv_at hL j (by rw [List.getElem?_map, hj]; rfl)
theorem g_iload_n {k : Fin 4} {x : Int32} (hd : decode M.2.1 pc = .ok (.iload_n k, 1)) (j i : Nat) (hi : (k : Nat) = i) (hj : ls[j]? = some (i, .int x)) (h : Go ω d M (pc + 1) ls (.int x :: st) I J Q) : Go ω d M pc ls st I J Q :=
  fun E p e s m args below meth c H arr locs hH hL hP hC hS => lv_iload_n hH.1 hH.2.1 hd hi (z_at hL hj) (h E p e s m args below meth c H arr locs hH hL hP hC hS)
theorem g_iload {i : Nat} {x : Int32} (hd : decode M.2.1 pc = .ok (.iload i, 2)) (j : Nat) (hj : ls[j]? = some (i, .int x)) (h : Go ω d M (pc + 2) ls (.int x :: st) I J Q) : Go ω d M pc ls st I J Q :=
  fun E p e s m args below meth c H arr locs hH hL hP hC hS => lv_iload hH.1 hH.2.1 hd (z_at hL hj) (h E p e s m args below meth c H arr locs hH hL hP hC hS)
theorem g_lload_n {k : Fin 4} {x : Int64} (hd : decode M.2.1 pc = .ok (.lload_n k, 1)) (j i : Nat) (hi : (k : Nat) = i) (hj : ls[j]? = some (i, .long x)) (h : Go ω d M (pc + 1) ls (.long x :: st) I J Q) : Go ω d M pc ls st I J Q :=
  fun E p e s m args below meth c H arr locs hH hL hP hC hS => lv_lload_n hH.1 hH.2.1 hd hi (z_at hL hj) (h E p e s m args below meth c H arr locs hH hL hP hC hS)
theorem g_lload {i : Nat} {x : Int64} (hd : decode M.2.1 pc = .ok (.lload i, 2)) (j : Nat) (hj : ls[j]? = some (i, .long x)) (h : Go ω d M (pc + 2) ls (.long x :: st) I J Q) : Go ω d M pc ls st I J Q :=
  fun E p e s m args below meth c H arr locs hH hL hP hC hS => lv_lload hH.1 hH.2.1 hd (z_at hL hj) (h E p e s m args below meth c H arr locs hH hL hP hC hS)
theorem g_aload_n {k : Fin 4} {x : Nat} (hd : decode M.2.1 pc = .ok (.aload_n k, 1)) (j i : Nat) (hi : (k : Nat) = i) (hj : ls[j]? = some (i, .ref x)) (h : Go ω d M (pc + 1) ls (.ref x :: st) I J Q) : Go ω d M pc ls st I J Q :=
  fun E p e s m args below meth c H arr locs hH hL hP hC hS => lv_aload_n hH.1 hH.2.1 hd hi (z_at hL hj) (h E p e s m args below meth c H arr locs hH hL hP hC hS)
theorem g_aload {i : Nat} {x : Nat} (hd : decode M.2.1 pc = .ok (.aload i, 2)) (j : Nat) (hj : ls[j]? = some (i, .ref x)) (h : Go ω d M (pc + 2) ls (.ref x :: st) I J Q) : Go ω d M pc ls st I J Q :=
  fun E p e s m args below meth c H arr locs hH hL hP hC hS => lv_aload hH.1 hH.2.1 hd (z_at hL hj) (h E p e s m args below meth c H arr locs hH hL hP hC hS)
theorem g_aload_nq {k : Fin 4} {x : Option Nat} (hd : decode M.2.1 pc = .ok (.aload_n k, 1)) (j i : Nat) (hi : (k : Nat) = i) (hj : ls[j]? = some (i, va_rf x)) (h : Go ω d M (pc + 1) ls (va_rf x :: st) I J Q) : Go ω d M pc ls st I J Q := by
  cases x with
  | none => exact fun E p e s m args below meth c H arr locs hH hL hP hC hS => lv_aload_nN hH.1 hH.2.1 hd hi (z_at hL hj) (h E p e s m args below meth c H arr locs hH hL hP hC hS)
  | some y => exact g_aload_n hd j i hi hj h
theorem z_fil1 (E : En) (i : Nat) (ls : List (Nat × Value)) : (ls.map (z_lv E)).filter (fun q => !(q.1 == i) && !(q.1 + 1 == i && q.2.category == 2)) = (ls.filter (fun q => !(q.1 == i) && !(q.1 + 1 == i && q.2.category == 2))).map (z_lv E) := by
  rw [List.filter_map]
  congr 1
  apply List.filter_congr
  intro q _
  simp only [Function.comp, z_lv, z_cat]
theorem z_fil2 (E : En) (i : Nat) (ls : List (Nat × Value)) : (ls.map (z_lv E)).filter (fun q => !(q.1 == i) && (!(q.1 == i + 1) && !(q.1 + 1 == i && q.2.category == 2))) = (ls.filter (fun q => !(q.1 == i) && (!(q.1 == i + 1) && !(q.1 + 1 == i && q.2.category == 2)))).map (z_lv E) := by
  rw [List.filter_map]
  congr 1
  apply List.filter_congr
  intro q _
  simp only [Function.comp, z_lv, z_cat]
theorem g_istore_n {k : Fin 4} {i : Nat} {x : Int32} {ls' : List (Nat × Value)} (hd : decode M.2.1 pc = .ok (.istore_n k, 1)) (hi : (k : Nat) = i) (hn : i < M.2.2.1) (hl : (i, Value.int x) :: ls.filter (fun q => !(q.1 == i) && !(q.1 + 1 == i && q.2.category == 2)) = ls') (h : Go ω d M (pc + 1) ls' st I J Q) : Go ω d M pc ls (.int x :: st) I J Q :=
  fun E p e s m args below meth c H arr locs hH hL hP hC hS => lv_istore_n (lv' := ls'.map (z_lv E)) hH.1 hH.2.1 hd hi hL hn (by subst hl; rw [z_fil1]; rfl) (fun arr hL => h E p e s m args below meth c H arr locs hH hL hP hC hS)
theorem g_istore {i : Nat} {x : Int32} {ls' : List (Nat × Value)} (hd : decode M.2.1 pc = .ok (.istore i, 2)) (hn : i < M.2.2.1) (hl : (i, Value.int x) :: ls.filter (fun q => !(q.1 == i) && !(q.1 + 1 == i && q.2.category == 2)) = ls') (h : Go ω d M (pc + 2) ls' st I J Q) : Go ω d M pc ls (.int x :: st) I J Q :=
  fun E p e s m args below meth c H arr locs hH hL hP hC hS => lv_istore (lv' := ls'.map (z_lv E)) hH.1 hH.2.1 hd hL hn (by subst hl; rw [z_fil1]; rfl) (fun arr hL => h E p e s m args below meth c H arr locs hH hL hP hC hS)
theorem g_lstore_n {k : Fin 4} {i : Nat} {x : Int64} {ls' : List (Nat × Value)} (hd : decode M.2.1 pc = .ok (.lstore_n k, 1)) (hi : (k : Nat) = i) (hn : i + 1 < M.2.2.1) (hl : (i, Value.long x) :: ls.filter (fun q => !(q.1 == i) && (!(q.1 == i + 1) && !(q.1 + 1 == i && q.2.category == 2))) = ls') (h : Go ω d M (pc + 1) ls' st I J Q) : Go ω d M pc ls (.long x :: st) I J Q :=
  fun E p e s m args below meth c H arr locs hH hL hP hC hS => lv_lstore_n (lv' := ls'.map (z_lv E)) hH.1 hH.2.1 hd hi hL hn (by subst hl; rw [z_fil2]; rfl) (fun arr hL => h E p e s m args below meth c H arr locs hH hL hP hC hS)
theorem g_lstore {i : Nat} {x : Int64} {ls' : List (Nat × Value)} (hd : decode M.2.1 pc = .ok (.lstore i, 2)) (hn : i + 1 < M.2.2.1) (hl : (i, Value.long x) :: ls.filter (fun q => !(q.1 == i) && (!(q.1 == i + 1) && !(q.1 + 1 == i && q.2.category == 2))) = ls') (h : Go ω d M (pc + 2) ls' st I J Q) : Go ω d M pc ls (.long x :: st) I J Q :=
  fun E p e s m args below meth c H arr locs hH hL hP hC hS => lv_lstore (lv' := ls'.map (z_lv E)) hH.1 hH.2.1 hd hL hn (by subst hl; rw [z_fil2]; rfl) (fun arr hL => h E p e s m args below meth c H arr locs hH hL hP hC hS)
theorem g_astore_n {k : Fin 4} {i : Nat} {x : Nat} {ls' : List (Nat × Value)} (hd : decode M.2.1 pc = .ok (.astore_n k, 1)) (hi : (k : Nat) = i) (hn : i < M.2.2.1) (hl : (i, Value.ref x) :: ls.filter (fun q => !(q.1 == i) && !(q.1 + 1 == i && q.2.category == 2)) = ls') (h : Go ω d M (pc + 1) ls' st I J Q) : Go ω d M pc ls (.ref x :: st) I J Q :=
  fun E p e s m args below meth c H arr locs hH hL hP hC hS => lv_astore_n (lv' := ls'.map (z_lv E)) hH.1 hH.2.1 hd hi hL hn (by subst hl; rw [z_fil1]; rfl) (fun arr hL => h E p e s m args below meth c H arr locs hH hL hP hC hS)
theorem g_astore {i : Nat} {x : Nat} {ls' : List (Nat × Value)} (hd : decode M.2.1 pc = .ok (.astore i, 2)) (hn : i < M.2.2.1) (hl : (i, Value.ref x) :: ls.filter (fun q => !(q.1 == i) && !(q.1 + 1 == i && q.2.category == 2)) = ls') (h : Go ω d M (pc + 2) ls' st I J Q) : Go ω d M pc ls (.ref x :: st) I J Q :=
  fun E p e s m args below meth c H arr locs hH hL hP hC hS => lv_astore (lv' := ls'.map (z_lv E)) hH.1 hH.2.1 hd hL hn (by subst hl; rw [z_fil1]; rfl) (fun arr hL => h E p e s m args below meth c H arr locs hH hL hP hC hS)
theorem g_astore_nq {k : Fin 4} {i : Nat} {x : Option Nat} {ls' : List (Nat × Value)} (hd : decode M.2.1 pc = .ok (.astore_n k, 1)) (hi : (k : Nat) = i) (hn : i < M.2.2.1) (hl : (i, va_rf x) :: ls.filter (fun q => !(q.1 == i) && !(q.1 + 1 == i && q.2.category == 2)) = ls') (h : Go ω d M (pc + 1) ls' st I J Q) : Go ω d M pc ls (va_rf x :: st) I J Q := by
  cases x with
  | none => exact fun E p e s m args below meth c H arr locs hH hL hP hC hS => lv_astore_nN (lv' := ls'.map (z_lv E)) hH.1 hH.2.1 hd hi hL hn (by subst hl; rw [z_fil1]; rfl) (fun arr hL => h E p e s m args below meth c H arr locs hH hL hP hC hS)
  | some y => exact g_astore_n hd hi hn hl h
theorem g_iinc {i : Nat} {n : Int} {x v : Int32} {ls' : List (Nat × Value)} (hd : decode M.2.1 pc = .ok (.iinc i n, 3)) (j : Nat) (hj : ls[j]? = some (i, .int x)) (hv : x + Int32.ofInt n = v) (hn : i < M.2.2.1) (hl : (i, Value.int v) :: ls.filter (fun q => !(q.1 == i) && !(q.1 + 1 == i && q.2.category == 2)) = ls') (h : Go ω d M (pc + 3) ls' st I J Q) : Go ω d M pc ls st I J Q :=
  fun E p e s m args below meth c H arr locs hH hL hP hC hS => lv_iinc (k := j) (lv' := ls'.map (z_lv E)) hH.1 hH.2.1 hd hL (by rw [List.getElem?_map, hj]; rfl) hv hn (by subst hl; rw [z_fil1]; rfl) (fun arr hL => h E p e s m args below meth c H arr locs hH hL hP hC hS)
theorem g_sub {ls' : List (Nat × Value)} (js : List Nat) (hs : js.filterMap (fun j => ls[j]?) = ls') (h : Go ω d M pc ls' st I J Q) : Go ω d M pc ls st I J Q :=
  fun E p e s m args below meth c H arr locs hH hL hP hC hS => h E p e s m args below meth c H arr locs hH ⟨hL.1, hL.2.1, fun q hq => by
    subst hs
    obtain ⟨q0, hq0, rfl⟩ := List.mem_map.mp hq
    obtain ⟨j, -, hj⟩ := List.mem_filterMap.mp hq0
    exact hL.2.2 _ (List.mem_map.mpr ⟨q0, List.mem_of_getElem? hj, rfl⟩)⟩ hP hC hS
theorem g_if_eq {x : Int32} {off : Int} {tgt : Nat} (hd : decode M.2.1 pc = .ok (.ifCond .eq off, 3)) (ht : (pc : Int) + off = (tgt : Int)) (h1 : x = 0 → Go ω d M tgt ls st I J Q) (h2 : ¬ x = 0 → Go ω d M (pc + 3) ls st I J Q) : Go ω d M pc ls (.int x :: st) I J Q :=
  fun E p e s m args below meth c H arr locs hH hL hP hC hS => lv_if_eq hH.1 hH.2.1 hd ht (fun q => h1 q E p e s m args below meth c H arr locs hH hL hP hC hS) (fun q => h2 q E p e s m args below meth c H arr locs hH hL hP hC hS)
theorem g_if_ne {x : Int32} {off : Int} {tgt : Nat} (hd : decode M.2.1 pc = .ok (.ifCond .ne off, 3)) (ht : (pc : Int) + off = (tgt : Int)) (h1 : ¬ x = 0 → Go ω d M tgt ls st I J Q) (h2 : x = 0 → Go ω d M (pc + 3) ls st I J Q) : Go ω d M pc ls (.int x :: st) I J Q :=
  fun E p e s m args below meth c H arr locs hH hL hP hC hS => lv_if_ne hH.1 hH.2.1 hd ht (fun q => h1 q E p e s m args below meth c H arr locs hH hL hP hC hS) (fun q => h2 q E p e s m args below meth c H arr locs hH hL hP hC hS)
theorem g_if_lt {x : Int32} {off : Int} {tgt : Nat} (hd : decode M.2.1 pc = .ok (.ifCond .lt off, 3)) (ht : (pc : Int) + off = (tgt : Int)) (h1 : x < 0 → Go ω d M tgt ls st I J Q) (h2 : ¬ x < 0 → Go ω d M (pc + 3) ls st I J Q) : Go ω d M pc ls (.int x :: st) I J Q :=
  fun E p e s m args below meth c H arr locs hH hL hP hC hS => lv_if_lt hH.1 hH.2.1 hd ht (fun q => h1 q E p e s m args below meth c H arr locs hH hL hP hC hS) (fun q => h2 q E p e s m args below meth c H arr locs hH hL hP hC hS)
theorem g_if_ge {x : Int32} {off : Int} {tgt : Nat} (hd : decode M.2.1 pc = .ok (.ifCond .ge off, 3)) (ht : (pc : Int) + off = (tgt : Int)) (h1 : 0 ≤ x → Go ω d M tgt ls st I J Q) (h2 : ¬ 0 ≤ x → Go ω d M (pc + 3) ls st I J Q) : Go ω d M pc ls (.int x :: st) I J Q :=
  fun E p e s m args below meth c H arr locs hH hL hP hC hS => lv_if_ge hH.1 hH.2.1 hd ht (fun q => h1 q E p e s m args below meth c H arr locs hH hL hP hC hS) (fun q => h2 q E p e s m args below meth c H arr locs hH hL hP hC hS)
theorem g_if_gt {x : Int32} {off : Int} {tgt : Nat} (hd : decode M.2.1 pc = .ok (.ifCond .gt off, 3)) (ht : (pc : Int) + off = (tgt : Int)) (h1 : 0 < x → Go ω d M tgt ls st I J Q) (h2 : ¬ 0 < x → Go ω d M (pc + 3) ls st I J Q) : Go ω d M pc ls (.int x :: st) I J Q :=
  fun E p e s m args below meth c H arr locs hH hL hP hC hS => lv_if_gt hH.1 hH.2.1 hd ht (fun q => h1 q E p e s m args below meth c H arr locs hH hL hP hC hS) (fun q => h2 q E p e s m args below meth c H arr locs hH hL hP hC hS)
theorem g_if_le {x : Int32} {off : Int} {tgt : Nat} (hd : decode M.2.1 pc = .ok (.ifCond .le off, 3)) (ht : (pc : Int) + off = (tgt : Int)) (h1 : x ≤ 0 → Go ω d M tgt ls st I J Q) (h2 : ¬ x ≤ 0 → Go ω d M (pc + 3) ls st I J Q) : Go ω d M pc ls (.int x :: st) I J Q :=
  fun E p e s m args below meth c H arr locs hH hL hP hC hS => lv_if_le hH.1 hH.2.1 hd ht (fun q => h1 q E p e s m args below meth c H arr locs hH hL hP hC hS) (fun q => h2 q E p e s m args below meth c H arr locs hH hL hP hC hS)
theorem g_icmp_eq {x y : Int32} {off : Int} {tgt : Nat} (hd : decode M.2.1 pc = .ok (.if_icmp .eq off, 3)) (ht : (pc : Int) + off = (tgt : Int)) (h1 : x = y → Go ω d M tgt ls st I J Q) (h2 : ¬ x = y → Go ω d M (pc + 3) ls st I J Q) : Go ω d M pc ls (.int y :: .int x :: st) I J Q :=
  fun E p e s m args below meth c H arr locs hH hL hP hC hS => lv_icmp_eq hH.1 hH.2.1 hd ht (fun q => h1 q E p e s m args below meth c H arr locs hH hL hP hC hS) (fun q => h2 q E p e s m args below meth c H arr locs hH hL hP hC hS)
theorem g_icmp_ne {x y : Int32} {off : Int} {tgt : Nat} (hd : decode M.2.1 pc = .ok (.if_icmp .ne off, 3)) (ht : (pc : Int) + off = (tgt : Int)) (h1 : ¬ x = y → Go ω d M tgt ls st I J Q) (h2 : x = y → Go ω d M (pc + 3) ls st I J Q) : Go ω d M pc ls (.int y :: .int x :: st) I J Q :=
  fun E p e s m args below meth c H arr locs hH hL hP hC hS => lv_icmp_ne hH.1 hH.2.1 hd ht (fun q => h1 q E p e s m args below meth c H arr locs hH hL hP hC hS) (fun q => h2 q E p e s m args below meth c H arr locs hH hL hP hC hS)
theorem g_icmp_lt {x y : Int32} {off : Int} {tgt : Nat} (hd : decode M.2.1 pc = .ok (.if_icmp .lt off, 3)) (ht : (pc : Int) + off = (tgt : Int)) (h1 : x < y → Go ω d M tgt ls st I J Q) (h2 : ¬ x < y → Go ω d M (pc + 3) ls st I J Q) : Go ω d M pc ls (.int y :: .int x :: st) I J Q :=
  fun E p e s m args below meth c H arr locs hH hL hP hC hS => lv_icmp_lt hH.1 hH.2.1 hd ht (fun q => h1 q E p e s m args below meth c H arr locs hH hL hP hC hS) (fun q => h2 q E p e s m args below meth c H arr locs hH hL hP hC hS)
theorem g_icmp_ge {x y : Int32} {off : Int} {tgt : Nat} (hd : decode M.2.1 pc = .ok (.if_icmp .ge off, 3)) (ht : (pc : Int) + off = (tgt : Int)) (h1 : y ≤ x → Go ω d M tgt ls st I J Q) (h2 : ¬ y ≤ x → Go ω d M (pc + 3) ls st I J Q) : Go ω d M pc ls (.int y :: .int x :: st) I J Q :=
  fun E p e s m args below meth c H arr locs hH hL hP hC hS => lv_icmp_ge hH.1 hH.2.1 hd ht (fun q => h1 q E p e s m args below meth c H arr locs hH hL hP hC hS) (fun q => h2 q E p e s m args below meth c H arr locs hH hL hP hC hS)
theorem g_icmp_gt {x y : Int32} {off : Int} {tgt : Nat} (hd : decode M.2.1 pc = .ok (.if_icmp .gt off, 3)) (ht : (pc : Int) + off = (tgt : Int)) (h1 : y < x → Go ω d M tgt ls st I J Q) (h2 : ¬ y < x → Go ω d M (pc + 3) ls st I J Q) : Go ω d M pc ls (.int y :: .int x :: st) I J Q :=
  fun E p e s m args below meth c H arr locs hH hL hP hC hS => lv_icmp_gt hH.1 hH.2.1 hd ht (fun q => h1 q E p e s m args below meth c H arr locs hH hL hP hC hS) (fun q => h2 q E p e s m args below meth c H arr locs hH hL hP hC hS)
theorem g_icmp_le {x y : Int32} {off : Int} {tgt : Nat} (hd : decode M.2.1 pc = .ok (.if_icmp .le off, 3)) (ht : (pc : Int) + off = (tgt : Int)) (h1 : x ≤ y → Go ω d M tgt ls st I J Q) (h2 : ¬ x ≤ y → Go ω d M (pc + 3) ls st I J Q) : Go ω d M pc ls (.int y :: .int x :: st) I J Q :=
  fun E p e s m args below meth c H arr locs hH hL hP hC hS => lv_icmp_le hH.1 hH.2.1 hd ht (fun q => h1 q E p e s m args below meth c H arr locs hH hL hP hC hS) (fun q => h2 q E p e s m args below meth c H arr locs hH hL hP hC hS)
theorem g_goto {off : Int} {tgt : Nat} (hd : decode M.2.1 pc = .ok (.goto off, 3)) (ht : (pc : Int) + off = (tgt : Int)) (h : Go ω d M tgt ls st I J Q) : Go ω d M pc ls st I J Q :=
  fun E p e s m args below meth c H arr locs hH hL hP hC hS => lv_goto hH.1 hH.2.1 hd ht (h E p e s m args below meth c H arr locs hH hL hP hC hS)
theorem g_tableOut {x : Int32} {dflt lo hi : Int} {offs : Array Int} {len tgt : Nat} (hd : decode M.2.1 pc = .ok (.tableswitch dflt lo hi offs, len)) (hx : x.toInt < lo ∨ hi < x.toInt) (ht : (pc : Int) + dflt = (tgt : Int)) (h : Go ω d M tgt ls st I J Q) : Go ω d M pc ls (.int x :: st) I J Q :=
  fun E p e s m args below meth c H arr locs hH hL hP hC hS => lv_tableOut hH.1 hH.2.1 hd hx ht (h E p e s m args below meth c H arr locs hH hL hP hC hS)
theorem g_tableIn {x : Int32} {dflt lo hi : Int} {offs : Array Int} {len : Nat} {off : Int} {tgt : Nat} (hd : decode M.2.1 pc = .ok (.tableswitch dflt lo hi offs, len)) (h1 : ¬ x.toInt < lo) (h2 : ¬ hi < x.toInt) (ho : offs[(x.toInt - lo).toNat]? = some off) (ht : (pc : Int) + off = (tgt : Int)) (h : Go ω d M tgt ls st I J Q) : Go ω d M pc ls (.int x :: st) I J Q :=
  fun E p e s m args below meth c H arr locs hH hL hP hC hS => lv_tableIn hH.1 hH.2.1 hd h1 h2 ho ht (h E p e s m args below meth c H arr locs hH hL hP hC hS)
theorem g_lookup {x : Int32} {dflt : Int} {ps : Array (Int × Int)} {len : Nat} {off : Int} {tgt : Nat} (hd : decode M.2.1 pc = .ok (.lookupswitch dflt ps, len)) (hp : (ps.toList.zip (ps.toList.drop 1)).all (fun (a, next) => a.1 < next.1) = true) (ho : Op.lookupswitch.offset ps.toList dflt x.toInt = off) (ht : (pc : Int) + off = (tgt : Int)) (h : Go ω d M tgt ls st I J Q) : Go ω d M pc ls (.int x :: st) I J Q :=
  fun E p e s m args below meth c H arr locs hH hL hP hC hS => lv_lookup hH.1 hH.2.1 hd hp ho ht (h E p e s m args below meth c H arr locs hH hL hP hC hS)
theorem g_ifnull_q {r : Option Nat} {off : Int} {tgt : Nat} (hd : decode M.2.1 pc = .ok (.ifnull off, 3)) (ht : (pc : Int) + off = (tgt : Int)) (h1 : r = none → Go ω d M tgt ls st I J Q) (h2 : ∀ y, r = some y → Go ω d M (pc + 3) ls st I J Q) : Go ω d M pc ls (va_rf r :: st) I J Q := by
  cases r with
  | none => exact fun E p e s m args below meth c H arr locs hH hL hP hC hS => lv_ifnullN hH.1 hH.2.1 hd ht (h1 rfl E p e s m args below meth c H arr locs hH hL hP hC hS)
  | some y => exact fun E p e s m args below meth c H arr locs hH hL hP hC hS => lv_ifnull hH.1 hH.2.1 hd (h2 y rfl E p e s m args below meth c H arr locs hH hL hP hC hS)
theorem g_ifnonnull_q {r : Option Nat} {off : Int} {tgt : Nat} (hd : decode M.2.1 pc = .ok (.ifnonnull off, 3)) (ht : (pc : Int) + off = (tgt : Int)) (h1 : ∀ y, r = some y → Go ω d M tgt ls st I J Q) (h2 : r = none → Go ω d M (pc + 3) ls st I J Q) : Go ω d M pc ls (va_rf r :: st) I J Q := by
  cases r with
  | none => exact fun E p e s m args below meth c H arr locs hH hL hP hC hS => lv_ifnonnullN hH.1 hH.2.1 hd (h2 rfl E p e s m args below meth c H arr locs hH hL hP hC hS)
  | some y => exact fun E p e s m args below meth c H arr locs hH hL hP hC hS => lv_ifnonnull hH.1 hH.2.1 hd ht (h1 y rfl E p e s m args below meth c H arr locs hH hL hP hC hS)
theorem z_end {E : En} {s t : State} {H : Heap} {locs : List Loc} (hP : va_P E.2.2.2.1 z_cls (z_ws ω E I J) H) (hC : z_C (z_A ω E) E s s.heap) (hS : va_S (z_A ω E) s.heap H locs) (ht : t.heap = H) (hW : s.WarmedH t.vm) {r : Option Value} (hQ : Q r I J) (a : Array Value) : z_Qc ω E Q a s (.returned (r.map (z_rv E))) t :=
  ⟨⟨r, I, J, hQ, rfl, by rw [ht]; exact hP, z_C.moved hW (fun q h1 h2 => by rw [ht]; exact hS.2.1 q h1 h2) hC⟩, hS.F ht⟩
theorem g_ireturn {v : Int32} (hd : decode M.2.1 pc = .ok (.ireturn, 1)) (hr : M.2.2.2 = some .int) (h : Q (some (.int v)) I J) : Go ω d M pc ls [.int v] I J Q :=
  fun E p e s m args below meth c H arr locs hH hL hP hC hS => W.iret hH.1 hH.2.1 (hH.2.2.1.trans hr) (fun t ht hW => z_end (r := some (.int v)) hP hC hS ht hW h _) hS.2.2 hd hH.2.2.2.2.2.2
theorem g_zreturn {v : Int32} (hd : decode M.2.1 pc = .ok (.ireturn, 1)) (hr : M.2.2.2 = some .boolean) (hn : narrow .boolean (.int v) = .int v) (h : Q (some (.int v)) I J) : Go ω d M pc ls [.int v] I J Q :=
  fun E p e s m args below meth c H arr locs hH hL hP hC hS => W.zret hH.1 hH.2.1 (hH.2.2.1.trans hr) hn (fun t ht hW => z_end (r := some (.int v)) hP hC hS ht hW h _) hS.2.2 hd hH.2.2.2.2.2.2
theorem g_lreturn {v : Int64} (hd : decode M.2.1 pc = .ok (.lreturn, 1)) (hr : M.2.2.2 = some .long) (h : Q (some (.long v)) I J) : Go ω d M pc ls [.long v] I J Q :=
  fun E p e s m args below meth c H arr locs hH hL hP hC hS => W.lret hH.1 hH.2.1 (hH.2.2.1.trans hr) (fun t ht hW => z_end (r := some (.long v)) hP hC hS ht hW h _) hS.2.2 hd hH.2.2.2.2.2.2
theorem g_return (hd : decode M.2.1 pc = .ok (.return_, 1)) (hr : M.2.2.2 = none) (h : Q none I J) : Go ω d M pc ls [] I J Q :=
  fun E p e s m args below meth c H arr locs hH hL hP hC hS => W.vret hH.1 hH.2.1 (hH.2.2.1.trans hr) (fun t ht hW => z_end (r := none) hP hC hS ht hW h _) hS.2.2 hd hH.2.2.2.2.2.2
theorem g_areturn {v : Option Nat} {n : String} (hd : decode M.2.1 pc = .ok (.areturn, 1)) (hr : M.2.2.2 = some (.object n)) (h : Q (some (va_rf v)) I J) : Go ω d M pc ls [va_rf v] I J Q :=
  fun E p e s m args below meth c H arr locs hH hL hP hC hS => W.aret hH.1 hH.2.1 (hH.2.2.1.trans hr) (Or.inl ⟨n, rfl⟩) (by rw [z_rvf]; exact va_rf_or _) (fun t ht hW => z_end (r := some (va_rf v)) hP hC hS ht hW h _) hS.2.2 hd hH.2.2.2.2.2.2
def z_Fl (own : String) (idx c k : Nat) : Prop := k < z_nF c ∧ Cond.fieldLink own idx (z_T c k).1 (z_T c k).2.1 (z_T c k).2.2.1 ∈ z_Tg
theorem z_obAt {E : En} {o c : Nat} (ho : z_Ob ω o c) : (z_ws ω E I J)[o]? = some (E.2.1 + o, .inr (c, z_fl E ω.2.2 I J c o)) := by
  rw [z_wsAt ho.2.1]
  simp [z_cel, ho.1]
theorem z_flAt {E : En} {P : Nat → Nat → Option Nat} {c o k : Nat} (hk : k < z_nF c) : (z_fl E P I J c o)[k]? = some (z_fv E P I J (z_kd (z_ty c k)) o k) := by
  simp [z_fl, hk]
theorem g_get {idx c k o : Nat} (v : Value) (hd : decode M.2.1 pc = .ok (.getfield idx, 3)) (hf : z_Fl M.1.cls idx c k) (ho : z_Ob ω o c) (hv : ∀ E : En, z_fv E ω.2.2 I J (z_kd (z_ty c k)) o k = z_rv E v) (h : Go ω d M (pc + 3) ls (v :: st) I J Q) : Go ω d M pc ls (.ref o :: st) I J Q := by
  intro E p e s m args below meth c9 H arr locs hH hL hP hC hS
  show W p E.1 e (z_rm d) s m args below meth c9 H locs 0 0 _ (F0 m pc arr (.ref (z_am E o) :: st.map (z_rv E)))
  rw [z_amLow ho.2.2.1]
  refine va_get hH.1 hH.2.1 hH.2.2.2.2.2.1 (fun w hw => List.mem_cons_of_mem _ (z_in c ho.2.2.2 w hw)) hH.2.2.2.2.1 hC.1 hP o (z_obAt ho) (z_clsAt c ho.2.2.2) k hf.1 (hH.2.2.2.2.2.1 _ (List.mem_cons_of_mem _ hf.2)) (fun x q => q) (z_flAt hf.1) hd ?_
  rw [hv E]
  exact h E p e s m args below meth c9 H arr locs hH hL hP hC hS
theorem g_getI {idx c k o : Nat} (hd : decode M.2.1 pc = .ok (.getfield idx, 3)) (hf : z_Fl M.1.cls idx c k) (hk : z_kd (z_ty c k) = 0) (ho : z_Ob ω o c) (h : Go ω d M (pc + 3) ls (.int (I o k) :: st) I J Q) : Go ω d M pc ls (.ref o :: st) I J Q :=
  g_get (.int (I o k)) hd hf ho (fun E => by rw [hk]; rfl) h
theorem g_getJ {idx c k o : Nat} (hd : decode M.2.1 pc = .ok (.getfield idx, 3)) (hf : z_Fl M.1.cls idx c k) (hk : z_kd (z_ty c k) = 1) (ho : z_Ob ω o c) (h : Go ω d M (pc + 3) ls (.long (J o k) :: st) I J Q) : Go ω d M pc ls (.ref o :: st) I J Q :=
  g_get (.long (J o k)) hd hf ho (fun E => by rw [hk]; rfl) h
theorem g_getP {idx c k o a : Nat} (hd : decode M.2.1 pc = .ok (.getfield idx, 3)) (hf : z_Fl M.1.cls idx c k) (hk : z_kd (z_ty c k) = 2) (ho : z_Ob ω o c) (hp : ω.2.2 o k = some a) (h : Go ω d M (pc + 3) ls (.ref a :: st) I J Q) : Go ω d M pc ls (.ref o :: st) I J Q :=
  g_get (.ref a) hd hf ho (fun E => by rw [hk]; show va_rf ((ω.2.2 o k).map (z_am E)) = _; rw [hp]; rfl) h
theorem g_getW {idx c k o : Nat} (hd : decode M.2.1 pc = .ok (.getfield idx, 3)) (hf : z_Fl M.1.cls idx c k) (hk : z_kd (z_ty c k) = 3) (ho : z_Ob ω o c) (h : Go ω d M (pc + 3) ls (va_rf (z_wo (I o k)) :: st) I J Q) : Go ω d M pc ls (.ref o :: st) I J Q :=
  g_get (va_rf (z_wo (I o k))) hd hf ho (fun E => by rw [hk, z_rvf]; rfl) h
def u2 (I : Ii) (o k : Nat) (v : Int32) : Ii := fun a j => if a = o ∧ j = k then v else I a j
def w2 (J : Jj) (o k : Nat) (v : Int64) : Jj := fun a j => if a = o ∧ j = k then v else J a j
theorem u2_row {o k a : Nat} {v : Int32} (h : a ≠ o) : u2 I o k v a = I a := by funext j; simp [u2, h]
theorem w2_row {o k a : Nat} {v : Int64} (h : a ≠ o) : w2 J o k v a = J a := by funext j; simp [w2, h]
theorem z_celRow {E : En} {I' : Ii} {J' : Jj} {j : Nat} (hi : I' j = I j) (hj : J' j = J j) : z_cel ω E I' J' j = z_cel ω E I J j := by
  have e : ∀ c, z_fl E ω.2.2 I' J' c j = z_fl E ω.2.2 I J c j := fun c => by
    unfold z_fl
    apply List.map_congr_left
    intro f _
    unfold z_fv
    split <;> simp [hi, hj]
  unfold z_cel
  split <;> simp [e, hi, hj]
theorem z_flSet {E : En} {P : Nat → Nat → Option Nat} {I' : Ii} {J' : Jj} {c o k : Nat} (hi : ∀ f, f ≠ k → I' o f = I o f) (hj : ∀ f, f ≠ k → J' o f = J o f) : z_fl E P I' J' c o = (z_fl E P I J c o).set k (z_fv E P I' J' (z_kd (z_ty c k)) o k) := by
  apply List.ext_getElem?
  intro f
  by_cases hf : f < z_nF c
  · rw [z_flAt hf]
    by_cases hfk : k = f
    · subst hfk
      rw [List.getElem?_set_self (by simp [z_fl]; exact hf)]
    · rw [List.getElem?_set_ne hfk, z_flAt hf]
      unfold z_fv
      split <;> simp [hi f (fun q => hfk q.symm), hj f (fun q => hfk q.symm)]
  · rw [List.getElem?_eq_none (by simp [z_fl]; omega), List.getElem?_eq_none (by simp [z_fl]; omega)]
theorem g_put {idx c k o : Nat} {v : Value} (I' : Ii) (J' : Jj) (hd : decode M.2.1 pc = .ok (.putfield idx, 3)) (hf : z_Fl M.1.cls idx c k) (hfin : (z_T c k).2.2.2 = false) (ho : z_Ob ω o c)
    (hn : ∀ E : En, narrow (z_ty c k) (z_rv E v) = z_rv E v) (hft : ∀ E : En, fits (z_ty c k) (z_rv E v) = true) (hv : ∀ E : En, z_fv E ω.2.2 I' J' (z_kd (z_ty c k)) o k = z_rv E v)
    (hi : ∀ f, f ≠ k → I' o f = I o f) (hj : ∀ f, f ≠ k → J' o f = J o f) (hio : ∀ a, a ≠ o → I' a = I a) (hjo : ∀ a, a ≠ o → J' a = J a) (h : Go ω d M (pc + 3) ls st I' J' Q) : Go ω d M pc ls (v :: .ref o :: st) I J Q := by
  intro E p e s m args below meth c9 H arr locs hH hL hP hC hS
  show W p E.1 e (z_rm d) s m args below meth c9 H locs 0 0 _ (F0 m pc arr (z_rv E v :: .ref (z_am E o) :: st.map (z_rv E)))
  rw [z_amLow ho.2.2.1]
  refine va_put hH.1 hH.2.1 hH.2.2.2.2.2.1 (fun w hw => List.mem_cons_of_mem _ (z_in c ho.2.2.2 w hw)) (z_ty c) (z_tyok c ho.2.2.2) (z_nmok c ho.2.2.2) hH.2.2.2.2.1 hC.1 hP z_wsD hS o (z_obAt ho) (z_clsAt c ho.2.2.2) k hf.1 (hH.2.2.2.2.2.1 _ (List.mem_cons_of_mem _ hf.2)) (fun x q => q) hfin (z_tyok c ho.2.2.2 k hf.1) (hn E) (hft E) (by simp [z_fl]; exact hf.1) hd (fun H1 locs1 hP1 _ hS1 => ?_)
  have e1 : z_cel ω E I' J' o = .inr (c, (z_fl E ω.2.2 I J c o).set k (z_rv E v)) := by
    rw [← hv E, ← z_flSet hi hj]
    simp [z_cel, ho.1]
  rw [z_wsSet e1 (fun j hj => z_celRow (hio j hj) (hjo j hj))] at hP1
  exact h E p e s m args below meth c9 H1 arr locs1 hH hL hP1 hC hS1
theorem g_putI {idx c k o : Nat} {v : Int32} (hd : decode M.2.1 pc = .ok (.putfield idx, 3)) (hf : z_Fl M.1.cls idx c k) (hfin : (z_T c k).2.2.2 = false) (ht : z_ty c k = .int) (ho : z_Ob ω o c) (h : Go ω d M (pc + 3) ls st (u2 I o k v) J Q) : Go ω d M pc ls (.int v :: .ref o :: st) I J Q :=
  g_put (u2 I o k v) J hd hf hfin ho (fun E => by rw [ht]; rfl) (fun E => by rw [ht]; rfl) (fun E => by rw [ht]; simp [z_kd, z_fv, u2, z_rv]) (fun f hf => by simp [u2, hf]) (fun f _ => rfl) (fun a ha => u2_row ha) (fun a _ => rfl) h
theorem g_putZ {idx c k o : Nat} {v : Int32} (hd : decode M.2.1 pc = .ok (.putfield idx, 3)) (hf : z_Fl M.1.cls idx c k) (hfin : (z_T c k).2.2.2 = false) (ht : z_ty c k = .boolean) (hz : v = 0 ∨ v = 1) (ho : z_Ob ω o c) (h : Go ω d M (pc + 3) ls st (u2 I o k v) J Q) : Go ω d M pc ls (.int v :: .ref o :: st) I J Q :=
  g_put (u2 I o k v) J hd hf hfin ho (fun E => by rw [ht]; rcases hz with rfl | rfl <;> rfl) (fun E => by rw [ht]; rcases hz with rfl | rfl <;> rfl) (fun E => by rw [ht]; simp [z_kd, z_fv, u2, z_rv]) (fun f hf => by simp [u2, hf]) (fun f _ => rfl) (fun a ha => u2_row ha) (fun a _ => rfl) h
theorem g_putJ {idx c k o : Nat} {v : Int64} (hd : decode M.2.1 pc = .ok (.putfield idx, 3)) (hf : z_Fl M.1.cls idx c k) (hfin : (z_T c k).2.2.2 = false) (ht : z_ty c k = .long) (ho : z_Ob ω o c) (h : Go ω d M (pc + 3) ls st I (w2 J o k v) Q) : Go ω d M pc ls (.long v :: .ref o :: st) I J Q :=
  g_put I (w2 J o k v) hd hf hfin ho (fun E => by rw [ht]; rfl) (fun E => by rw [ht]; rfl) (fun E => by rw [ht]; simp [z_kd, z_fv, w2, z_rv]) (fun f _ => rfl) (fun f hf => by simp [w2, hf]) (fun a _ => rfl) (fun a ha => w2_row ha) h
theorem g_putW {idx c k o : Nat} {x : Int32} (hd : decode M.2.1 pc = .ok (.putfield idx, 3)) (hf : z_Fl M.1.cls idx c k) (hfin : (z_T c k).2.2.2 = false) (ht : z_ty c k = .object "PupilsPupil$Word") (ho : z_Ob ω o c) (h : Go ω d M (pc + 3) ls st (u2 I o k x) J Q) : Go ω d M pc ls (va_rf (z_wo x) :: .ref o :: st) I J Q :=
  g_put (u2 I o k x) J hd hf hfin ho (fun E => by rw [ht, z_rvf]; rcases va_rf_or ((z_wo x).map (z_am E)) with q | ⟨a, q⟩ <;> rw [q] <;> rfl) (fun E => by rw [ht, z_rvf]; rcases va_rf_or ((z_wo x).map (z_am E)) with q | ⟨a, q⟩ <;> rw [q] <;> rfl) (fun E => by rw [ht, z_rvf]; simp [z_kd, z_fv, u2]) (fun f hf => by simp [u2, hf]) (fun f _ => rfl) (fun a ha => u2_row ha) (fun a _ => rfl) h
theorem z_ar1 {E : En} {a n : Nat} (ha : z_Ar ω a 1 n) : (z_ws ω E I J)[a]? = some (E.2.1 + a, .inl (E.2.2.2.2 1, n, .inl (I a))) := by rw [z_wsAt ha.2.1]; simp [z_cel, ha.1]
theorem z_ar2 {E : En} {a n : Nat} (ha : z_Ar ω a 2 n) : (z_ws ω E I J)[a]? = some (E.2.1 + a, .inl (E.2.2.2.2 2, n, .inl (I a))) := by rw [z_wsAt ha.2.1]; simp [z_cel, ha.1]
theorem z_ar3 {E : En} {a n : Nat} (ha : z_Ar ω a 3 n) : (z_ws ω E I J)[a]? = some (E.2.1 + a, .inl (E.2.2.2.2 3, n, .inr (.inl (J a)))) := by rw [z_wsAt ha.2.1]; simp [z_cel, ha.1]
theorem z_ar4 {E : En} {a n : Nat} (ha : z_Ar ω a 4 n) : (z_ws ω E I J)[a]? = some (E.2.1 + a, .inl (E.2.2.2.2 4, n, .inr (.inr (.inr (.inr (fun i => (ω.2.2 a i).map (z_am E))))))) := by rw [z_wsAt ha.2.1]; simp [z_cel, ha.1]
theorem g_iald {a n : Nat} {i : Int32} (hd : decode M.2.1 pc = .ok (.iaload, 1)) (ha : z_Ar ω a 1 n) (hi : vp_in i n) (h : Go ω d M (pc + 1) ls (.int (I a i.toNatClampNeg) :: st) I J Q) : Go ω d M pc ls (.int i :: .ref a :: st) I J Q := by
  intro E p e s m args below meth c9 H arr locs hH hL hP hC hS
  show W p E.1 e (z_rm d) s m args below meth c9 H locs 0 0 _ (F0 m pc arr (.int i :: .ref (z_am E a) :: st.map (z_rv E)))
  rw [z_amLow ha.2.2]
  exact va_iald hH.1 hH.2.1 hC.1 hP a 0 (z_ar1 ha) rfl hi hd (h E p e s m args below meth c9 H arr locs hH hL hP hC hS)
theorem g_cald {a n : Nat} {i : Int32} (hd : decode M.2.1 pc = .ok (.caload, 1)) (ha : z_Ar ω a 2 n) (hi : vp_in i n) (h : Go ω d M (pc + 1) ls (.int (I a i.toNatClampNeg) :: st) I J Q) : Go ω d M pc ls (.int i :: .ref a :: st) I J Q := by
  intro E p e s m args below meth c9 H arr locs hH hL hP hC hS
  show W p E.1 e (z_rm d) s m args below meth c9 H locs 0 0 _ (F0 m pc arr (.int i :: .ref (z_am E a) :: st.map (z_rv E)))
  rw [z_amLow ha.2.2]
  exact va_cald hH.1 hH.2.1 hC.1 hP a 1 (z_ar2 ha) rfl hi hd (h E p e s m args below meth c9 H arr locs hH hL hP hC hS)
theorem g_lald {a n : Nat} {i : Int32} (hd : decode M.2.1 pc = .ok (.laload, 1)) (ha : z_Ar ω a 3 n) (hi : vp_in i n) (h : Go ω d M (pc + 1) ls (.long (J a i.toNatClampNeg) :: st) I J Q) : Go ω d M pc ls (.int i :: .ref a :: st) I J Q := by
  intro E p e s m args below meth c9 H arr locs hH hL hP hC hS
  show W p E.1 e (z_rm d) s m args below meth c9 H locs 0 0 _ (F0 m pc arr (.int i :: .ref (z_am E a) :: st.map (z_rv E)))
  rw [z_amLow ha.2.2]
  exact va_lald hH.1 hH.2.1 hC.1 hP a 2 (z_ar3 ha) rfl hi hd (h E p e s m args below meth c9 H arr locs hH hL hP hC hS)
theorem g_aald {a n b : Nat} {i : Int32} (hd : decode M.2.1 pc = .ok (.aaload, 1)) (ha : z_Ar ω a 4 n) (hi : vp_in i n) (hp : ω.2.2 a i.toNatClampNeg = some b) (h : Go ω d M (pc + 1) ls (.ref b :: st) I J Q) : Go ω d M pc ls (.int i :: .ref a :: st) I J Q := by
  intro E p e s m args below meth c9 H arr locs hH hL hP hC hS
  show W p E.1 e (z_rm d) s m args below meth c9 H locs 0 0 _ (F0 m pc arr (.int i :: .ref (z_am E a) :: st.map (z_rv E)))
  rw [z_amLow ha.2.2]
  refine va_aldq hH.1 hH.2.1 hC.1 hP a 3 (f := fun i => (ω.2.2 a i).map (z_am E)) (z_ar4 ha) rfl hi hd ?_
  rw [hp]
  exact h E p e s m args below meth c9 H arr locs hH hL hP hC hS
theorem g_iast {a n : Nat} {i : Int32} {x : Int32} (hd : decode M.2.1 pc = .ok (.iastore, 1)) (ha : z_Ar ω a 1 n) (hi : vp_in i n) (h : Go ω d M (pc + 1) ls st (u2 I a i.toNatClampNeg x) J Q) : Go ω d M pc ls (.int x :: .int i :: .ref a :: st) I J Q := by
  intro E p e s m args below meth c9 H arr locs hH hL hP hC hS
  show W p E.1 e (z_rm d) s m args below meth c9 H locs 0 0 _ (F0 m pc arr (.int x :: .int i :: .ref (z_am E a) :: st.map (z_rv E)))
  rw [z_amLow ha.2.2]
  refine va_iast hH.1 hH.2.1 hC.1 hP z_wsD hS a 0 (z_ar1 ha) rfl hi hd (fun H1 locs1 hP1 _ hS1 => ?_)
  have e1 : z_cel ω E (u2 I a i.toNatClampNeg x) J a = .inl (E.2.2.2.2 1, n, .inl (upd (I a) i.toNatClampNeg x)) := by
    simp only [z_cel, ha.1]
    congr 3
    first | (funext j; simp [u2, upd]; done) | (congr 1; funext j; simp [u2, upd]; done) | (congr 1; funext j; simp [w2, vp_updL]; done) | (congr 2; funext j; simp [w2, vp_updL])
  rw [z_wsSet e1 (fun j hj => z_celRow (u2_row hj) rfl)] at hP1
  exact h E p e s m args below meth c9 H1 arr locs1 hH hL hP1 hC hS1
theorem g_last {a n : Nat} {i : Int32} {x : Int64} (hd : decode M.2.1 pc = .ok (.lastore, 1)) (ha : z_Ar ω a 3 n) (hi : vp_in i n) (h : Go ω d M (pc + 1) ls st I (w2 J a i.toNatClampNeg x) Q) : Go ω d M pc ls (.long x :: .int i :: .ref a :: st) I J Q := by
  intro E p e s m args below meth c9 H arr locs hH hL hP hC hS
  show W p E.1 e (z_rm d) s m args below meth c9 H locs 0 0 _ (F0 m pc arr (.long x :: .int i :: .ref (z_am E a) :: st.map (z_rv E)))
  rw [z_amLow ha.2.2]
  refine va_last hH.1 hH.2.1 hC.1 hP z_wsD hS a 2 (z_ar3 ha) rfl hi hd (fun H1 locs1 hP1 _ hS1 => ?_)
  have e1 : z_cel ω E I (w2 J a i.toNatClampNeg x) a = .inl (E.2.2.2.2 3, n, .inr (.inl (vp_updL (J a) i.toNatClampNeg x))) := by
    simp only [z_cel, ha.1]
    congr 3
    first | (funext j; simp [u2, upd]; done) | (congr 1; funext j; simp [u2, upd]; done) | (congr 1; funext j; simp [w2, vp_updL]; done) | (congr 2; funext j; simp [w2, vp_updL])
  rw [z_wsSet e1 (fun j hj => z_celRow rfl (w2_row hj))] at hP1
  exact h E p e s m args below meth c9 H1 arr locs1 hH hL hP1 hC hS1
theorem g_alen {a t n : Nat} (hd : decode M.2.1 pc = .ok (.arraylength, 1)) (ha : z_Ar ω a (t + 1) n) (ht : t < 4) (h : Go ω d M (pc + 1) ls (.int (Int32.ofNat n) :: st) I J Q) : Go ω d M pc ls (.ref a :: st) I J Q := by
  intro E p e s m args below meth c9 H arr locs hH hL hP hC hS
  show W p E.1 e (z_rm d) s m args below meth c9 H locs 0 0 _ (F0 m pc arr (.ref (z_am E a) :: st.map (z_rv E)))
  rw [z_amLow ha.2.2]
  have hk := h E p e s m args below meth c9 H arr locs hH hL hP hC hS
  match t, ht, ha with
  | 0, _, ha => exact va_alen hH.1 hH.2.1 hC.1 hP a 0 (z_ar1 ha) rfl rfl hd hk
  | 1, _, ha => exact va_alen hH.1 hH.2.1 hC.1 hP a 1 (z_ar2 ha) rfl rfl hd hk
  | 2, _, ha => exact va_alen hH.1 hH.2.1 hC.1 hP a 2 (z_ar3 ha) rfl rfl hd hk
  | 3, _, ha => exact va_alen hH.1 hH.2.1 hC.1 hP a 3 (z_ar4 ha) rfl rfl hd hk
theorem z_cont {E : En} {p : Program} {e : Env} {s : State} {m : MethodId} {args : Array Value} {below : List Frame} {meth : Method} {c : Code} {H : Heap} {arr : Array Slot} {locs : List Loc} {R : Room} {Qf : State → Prop} {st0 rest : List Value} {Q' : Qt} {a : Array Value}
    (hr : va_Run p E.1 e R s m args below meth c H locs 0 0 0 0 (F0 m pc arr st0) rest (z_Qc ω E Q' a) (z_A ω E)) (hS : va_S (z_A ω E) s.heap H locs)
    (k : ∀ r I' J' H1 locs1, Q' r I' J' → va_P E.2.2.2.1 z_cls (z_ws ω E I' J') H1 → va_S (z_A ω E) s.heap H1 locs1 → W p E.1 e R s m args below meth c H1 locs1 0 0 Qf (F0 m (pc + 3) arr ((r.map (z_rv E)).toList ++ rest))) : W p E.1 e R s m args below meth c H locs 0 0 Qf (F0 m pc arr st0) := by
  intro T hT X
  obtain ⟨v, st₀, t, T', L, h0, X', hL, e1, e2, ⟨⟨r, I', J', hq, hv, hw⟩, hz, hk⟩, stp⟩ := hr T hT X
  cases hv
  rw [h0] at hz hk
  obtain ⟨t2, a1, b1⟩ := k r I' J' T'.heap (locs ++ L) hq (by rw [e1]; exact hw.1)
    ⟨Nat.le_trans hS.1 (by rw [e1]; exact hz), fun q h1 h2 => by rw [e1, hk q (Nat.lt_of_lt_of_le h1 hS.1) h2]; exact hS.2.1 q h1 h2, fun q hq => by
      rcases List.mem_append.mp hq with h | h
      · exact hS.2.2 q h
      · exact hL q h⟩ T' rfl X'
  exact ⟨t2, stp t2 a1, b1⟩
def z_Lk (own : String) (idx : Nat) (M : Mt) : Prop := Cond.methodLink own idx M.1 ∈ z_Tg ∨ (own, idx, M.1) ∈ z_NM
def z_Md (M : Mt) (n : Nat) : Prop := Cond.code M.1 M.2.1 M.2.2.1 M.2.2.2 ∈ z_Tg ∧ Cond.initialized M.1.cls ∈ z_Tg ∧ (M.1.cls ≠ "java/lang/invoke/MethodHandle" ∧ M.1.cls ≠ "java/lang/invoke/VarHandle" ∧ (parseMethodDescriptor M.1.desc).map (fun d => d.parameters.length) = some n) ∧ M.2.2.1 ≤ 21
def z_Mv (M : Mt) : Prop := Cond.instanceMethod M.1 ∈ z_Tg ∧ Cond.selects M.1.cls M.1 M.1 ∈ z_Tg
theorem z_blind {E : En} {av : List Value} : FrameBlind (va_Pc av (fun U => z_Wd ω E I J U)) := fun a U g mk h => ⟨h.1, h.2.blind⟩
theorem z_start {E : En} {s U : State} {H : Heap} {locs : List Loc} {av : List Value} (hP : va_P E.2.2.2.1 z_cls (z_ws ω E I J) H) (hC : z_C (z_A ω E) E s s.heap) (hS : va_S (z_A ω E) s.heap H locs) (hU : U.heap = H) (hW : s.WarmedH U.vm) : va_Pc av (fun U => z_Wd ω E I J U) av.toArray U :=
  ⟨rfl, by rw [hU]; exact hP, z_C.moved hW (fun q h1 h2 => by rw [hU]; exact hS.2.1 q h1 h2) hC⟩
theorem z_room {d : Nat} {k : Nat} (h : k ≤ 21) : (z_rm d).frames + 1 ≤ (z_rm (d + 1)).frames ∧ 8 + (k + 11) + (z_rm d).locals ≤ (z_rm (d + 1)).locals := by
  simp only [z_rm]
  omega
theorem z_sumc {E : En} {rest : List Value} (h : (rest.map fun v => v.category).sum ≤ 8) : ((rest.map (z_rv E)).map fun v => v.category).sum ≤ 8 := by
  rw [List.map_map]
  have e : ((fun v => v.category) ∘ z_rv E) = (fun v : Value => v.category) := funext fun v => z_cat E v
  rw [e]
  exact h
theorem g_callv {idx n o c : Nat} {M' : Mt} {As rest : List Value} {Q' : Qt} (hd : decode M.2.1 pc = .ok (.invokevirtual idx, 3)) (hl : z_Lk M.1.cls idx M') (hm : z_Md M' n) (hv : z_Mv M') (ho : z_Ob ω o c) (hc : z_R c = M'.1.cls) (hn : As.length = n) (hst : st = As.reverse ++ .ref o :: rest) (hsum : (rest.map fun v => v.category).sum ≤ 8)
    (h : Cal ω d M' (.ref o :: As) I J Q') (hk : ∀ r I' J', Q' r I' J' → Go ω (d + 1) M (pc + 3) ls (r.toList ++ rest) I' J' Q) : Go ω (d + 1) M pc ls st I J Q := by
  subst hst
  intro E p e s m args below meth c9 H arr locs hH hL hP hC hS
  have hrecv : ∃ cellB : Cell, H[z_am E o]? = some cellB ∧ cellB.vm.isStatics = false ∧ s.vm.findClass M'.1.cls = some cellB.cls := by
    rw [z_amLow ho.2.2.1, ← hc]
    exact va_recv hC.1 hP (z_clsAt c ho.2.2.2) (z_obAt ho)
  have hcw : ∀ w ∈ z_Tg, w.before args s = true := fun w hw => hH.2.2.2.2.2.1 w (List.mem_cons_of_mem _ hw)
  have e1 : (As.reverse ++ .ref o :: rest).map (z_rv E) = (As.map (z_rv E)).reverse ++ .ref (z_am E o) :: rest.map (z_rv E) := by
    simp [z_rv]
  have hfin : ∀ r I' J' H1 locs1, Q' r I' J' → va_P E.2.2.2.1 z_cls (z_ws ω E I' J') H1 → va_S (z_A ω E) s.heap H1 locs1 → W p E.1 e (z_rm (d + 1)) s m args below meth c9 H1 locs1 0 0 (MQ below (z_Qc ω E Q) args s 0 0 (z_A ω E)) (F0 m (pc + 3) arr ((r.map (z_rv E)).toList ++ rest.map (z_rv E))) := by
    intro r I' J' H1 locs1 hq hP1 hS1
    have := hk r I' J' hq E p e s m args below meth c9 H1 arr locs1 hH hL hP1 hC hS1
    have e2 : (r.toList ++ rest).map (z_rv E) = (r.map (z_rv E)).toList ++ rest.map (z_rv E) := by cases r <;> simp
    rw [e2] at this
    exact this
  have hpv : PreV s H M'.1.cls (z_am E o) (va_Pc ((Value.ref o :: As).map (z_rv E)) (fun U => z_Wd ω E I J U)) (As.map (z_rv E)) := ⟨z_blind, hrecv, fun U hU hW => z_start hP hC hS hU hW⟩
  have hdd : M'.1.cls = M'.1.cls ∧ _ := ⟨rfl, hm.2.2.1⟩
  rcases hl with hl | hl
  · have cb : CallB (z_rm (d + 1)) s args M.1.cls idx M'.1 M'.2.1 M'.2.2.1 M'.2.2.2 (z_wsM M') (z_rm d) 0 0 n := callB_of n hH.2.2.2.2.2.1 (z_goodIn hm.1) rfl rfl rfl (hcw _ hm.2.1) (hcw _ hl) hm.2.2.1 (z_room hm.2.2.2)
    refine z_cont (va_runV (As := As.map (z_rv E)) (rest := rest.map (z_rv E)) ⟨hH.1, hH.2.1, hH.2.2.2.1, hH.2.2.2.2.1, hH.2.2.2.2.2.1⟩ (h E) ⟨cb, hcw _ hv.1, hcw _ hv.2⟩ hpv rfl (by rw [List.length_map]; exact hn) hL.1 e1 (lv_room (z_sumc hsum)) hd ⟨Nat.le_refl _, Nat.le_refl _⟩) hS hfin
  · have cb : va_CN (z_rm (d + 1)) s args M.1.cls idx M'.1 "PupilsPupil" M'.2.1 M'.2.2.1 M'.2.2.2 (z_wsM M') (z_rm d) 0 0 n := va_cnB n hH.2.2.2.2.2.1 (z_goodIn hm.1) rfl rfl rfl (hC.2.1.1 _ hl) (hcw _ hm.2.1) hm.2.2.1 (z_room hm.2.2.2)
    refine z_cont (va_runVN (As := As.map (z_rv E)) (rest := rest.map (z_rv E)) ⟨hH.1, hH.2.1, hH.2.2.2.1, hH.2.2.2.2.1, hH.2.2.2.2.2.1⟩ (h E) ⟨cb, hcw _ hv.1, hcw _ hv.2⟩ hpv rfl (by rw [List.length_map]; exact hn) hL.1 e1 (lv_room (z_sumc hsum)) hd ⟨Nat.le_refl _, Nat.le_refl _⟩) hS hfin
theorem g_calls {idx n : Nat} {M' : Mt} {As rest : List Value} {Q' : Qt} (hd : decode M.2.1 pc = .ok (.invokestatic idx, 3)) (hl : z_Lk M.1.cls idx M') (hm : z_Md M' n) (hv : Cond.static M'.1 ∈ z_Tg) (hn : As.length = n) (hst : st = As.reverse ++ rest) (hsum : (rest.map fun v => v.category).sum ≤ 8)
    (h : Cal ω d M' As I J Q') (hk : ∀ r I' J', Q' r I' J' → Go ω (d + 1) M (pc + 3) ls (r.toList ++ rest) I' J' Q) : Go ω (d + 1) M pc ls st I J Q := by
  subst hst
  intro E p e s m args below meth c9 H arr locs hH hL hP hC hS
  have hcw : ∀ w ∈ z_Tg, w.before args s = true := fun w hw => hH.2.2.2.2.2.1 w (List.mem_cons_of_mem _ hw)
  have e1 : (As.reverse ++ rest).map (z_rv E) = (As.map (z_rv E)).reverse ++ rest.map (z_rv E) := by simp
  have hfin : ∀ r I' J' H1 locs1, Q' r I' J' → va_P E.2.2.2.1 z_cls (z_ws ω E I' J') H1 → va_S (z_A ω E) s.heap H1 locs1 → W p E.1 e (z_rm (d + 1)) s m args below meth c9 H1 locs1 0 0 (MQ below (z_Qc ω E Q) args s 0 0 (z_A ω E)) (F0 m (pc + 3) arr ((r.map (z_rv E)).toList ++ rest.map (z_rv E))) := by
    intro r I' J' H1 locs1 hq hP1 hS1
    have := hk r I' J' hq E p e s m args below meth c9 H1 arr locs1 hH hL hP1 hC hS1
    have e2 : (r.toList ++ rest).map (z_rv E) = (r.map (z_rv E)).toList ++ rest.map (z_rv E) := by cases r <;> simp
    rw [e2] at this
    exact this
  have hps : PreS s H (va_Pc (As.map (z_rv E)) (fun U => z_Wd ω E I J U)) (As.map (z_rv E)) := ⟨z_blind, fun U hU hW => z_start hP hC hS hU hW⟩
  rcases hl with hl | hl
  · have cb : CallB (z_rm (d + 1)) s args M.1.cls idx M'.1 M'.2.1 M'.2.2.1 M'.2.2.2 (z_wsM M') (z_rm d) 0 0 n := callB_of n hH.2.2.2.2.2.1 (z_goodIn hm.1) rfl rfl rfl (hcw _ hm.2.1) (hcw _ hl) hm.2.2.1 (z_room hm.2.2.2)
    refine z_cont (va_runS (As := As.map (z_rv E)) (rest := rest.map (z_rv E)) ⟨hH.1, hH.2.1, hH.2.2.2.1, hH.2.2.2.2.1, hH.2.2.2.2.2.1⟩ (h E) ⟨cb, hcw _ hv⟩ hps rfl (by rw [List.length_map]; exact hn) hL.1 e1 (lv_room (z_sumc hsum)) hd ⟨Nat.le_refl _, Nat.le_refl _⟩) hS hfin
  · have cb : va_CN (z_rm (d + 1)) s args M.1.cls idx M'.1 "PupilsPupil" M'.2.1 M'.2.2.1 M'.2.2.2 (z_wsM M') (z_rm d) 0 0 n := va_cnB n hH.2.2.2.2.2.1 (z_goodIn hm.1) rfl rfl rfl (hC.2.1.1 _ hl) (hcw _ hm.2.1) hm.2.2.1 (z_room hm.2.2.2)
    refine z_cont (va_runSN (As := As.map (z_rv E)) (rest := rest.map (z_rv E)) ⟨hH.1, hH.2.1, hH.2.2.2.1, hH.2.2.2.2.1, hH.2.2.2.2.2.1⟩ (h E) ⟨cb, hcw _ hv, trivial⟩ hps rfl (by rw [List.length_map]; exact hn) hL.1 e1 (lv_room (z_sumc hsum)) hd ⟨Nat.le_refl _, Nat.le_refl _⟩) hS hfin
theorem z_argsMap (E : En) : ∀ (i : Nat) (vs : List Value), lv_args i (vs.map (z_rv E)) = (lv_args i vs).map (z_lv E)
  | _, [] => rfl
  | i, v :: vs => by
    simp only [List.map_cons, lv_args, z_cat]
    rw [z_argsMap E]
    rfl
theorem z_slLen (E : En) (vs : List Value) : (lg_sl (vs.map (z_rv E))).length = (lg_sl vs).length := by
  induction vs with
  | nil => rfl
  | cons v vs ih =>
    simp only [lg_sl, List.map_cons, List.flatMap_cons, List.length_append] at ih ⊢
    rw [ih]
    cases v <;> rfl
/-- a contract out of a walk -/
theorem Cal.of {av : List Value} (hy : plainName M.1.cls = true) (hlen : (lg_sl av).length ≤ M.2.2.1) (h : Go ω d M 0 (lv_args 0 av) [] I J Q) : Cal ω d M av I J Q := by
  intro E
  refine Met.ofW (cc := M.2.1) (maxL := M.2.2.1) (ret := M.2.2.2) hy rfl ?_
  intro p e s m args below meth c s₁ B hml hv
  obtain ⟨rfl, hw⟩ := hv
  have hts := atoms_spec (ws := z_wsM M) B.pre
  have hown : s.vm.findClass M.1.cls = some m.cls := findClass_of_methodNamed B.named
  have hl := lv_entry (av.map (z_rv E)) (n := M.2.2.1) (by rw [z_slLen]; exact hlen)
  rw [lg_entry_eq]
  rw [z_argsMap] at hl
  exact h E p e s m _ below meth c s.heap _ [] ⟨B.exec, B.bytes, B.returns, hml, hown, hts, B.notSynchronized⟩ hl hw.1 hw.2 va_S.rf
theorem Cal.mono {av : List Value} {Q' : Qt} (h : Cal ω d M av I J Q) (hq : ∀ r I' J', Q r I' J' → Q' r I' J') : Cal ω d M av I J Q' := by
  intro E p e ha hc hk s m args below hf happ hP hK
  obtain ⟨k, o, h1, h2, h3, h4⟩ := h E p e ha hc hk s m args below hf happ hP hK
  exact ⟨k, o, h1, h2, h3, ⟨⟨by obtain ⟨r, I', J', a1, a2⟩ := h4.1.1; exact ⟨r, I', J', hq _ _ _ a1, a2⟩, h4.1.2⟩, h4.2⟩⟩
end ZR
