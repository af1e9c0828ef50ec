section
variable {E : xEn} {l : Launch} {M : xM} {pc pc' : Nat} {lv lv' : List (Nat × Value)} {st : List Value} {hp : List xC} {nc ns : Nat} {r : Option Value} {hp' : List xC}
theorem g_ret {rs : List Value} (hd : decode M.2.1 pc = .ok (x_rd r, 1)) (hrt : x_rt M.2.2.2.1 r) (hc : M.2.2.2.2.2.2.1 = nc) (hs : M.2.2.2.2.2.2.2 = ns) (hst : rs = r.toList) : G E l M pc lv rs hp nc ns r hp := by
  subst hc; subst hs; subst hst
  intro p e R s m args below meth c Q H locs ls C hP hS hz hl K
  have e1 : r.toList.map (x_v E) = (r.map (x_v E)).toList := by cases r <;> rfl
  rw [e1]
  exact K pc H locs ls hd hrt hP hS hz
theorem g_sub (ks : List Nat) (hk : lv_pick lv ks = lv') (kk : G E l M pc lv' st hp nc ns r hp') : G E l M pc lv st hp nc ns r hp' := by
  intro p e R s m args below meth c Q H locs ls C hP hS hz hl K
  exact kk p e R s m args below meth c Q H locs ls C hP hS hz (x_lv_sub hl ks hk) K
theorem g_nm {v w : Value} (h : v = w) (kk : G E l M pc lv (w :: st) hp nc ns r hp') : G E l M pc lv (v :: st) hp nc ns r hp' := by rw [h]; exact kk
theorem g_nmi {v w : Int32} (h : some v = some w) (kk : G E l M pc lv (.int w :: st) hp nc ns r hp') : G E l M pc lv (.int v :: st) hp nc ns r hp' := by rw [Option.some.inj h]; exact kk
theorem g_nml {v w : Int64} (h : some v = some w) (kk : G E l M pc lv (.long w :: st) hp nc ns r hp') : G E l M pc lv (.long v :: st) hp nc ns r hp' := by rw [Option.some.inj h]; exact kk
theorem g_iadd {x y : Int32} (hd : decode M.2.1 pc = .ok (.iadd, 1)) (hpc : pc + 1 = pc')  (kk : G E l M pc' lv (.int (x + y) :: st) hp nc ns r hp') : G E l M pc lv (.int y :: .int x :: st) hp nc ns r hp' := by
  subst hpc
  intro p e R s m args below meth c Q H locs ls C hP hS hz hl K
  exact lv_iadd C.1 C.2.1 hd (kk p e R s m args below meth c Q H locs ls C hP hS hz hl K)
theorem g_isub {x y : Int32} (hd : decode M.2.1 pc = .ok (.isub, 1)) (hpc : pc + 1 = pc')  (kk : G E l M pc' lv (.int (x - y) :: st) hp nc ns r hp') : G E l M pc lv (.int y :: .int x :: st) hp nc ns r hp' := by
  subst hpc
  intro p e R s m args below meth c Q H locs ls C hP hS hz hl K
  exact lv_isub C.1 C.2.1 hd (kk p e R s m args below meth c Q H locs ls C hP hS hz hl K)
theorem g_imul {x y : Int32} (hd : decode M.2.1 pc = .ok (.imul, 1)) (hpc : pc + 1 = pc')  (kk : G E l M pc' lv (.int (x * y) :: st) hp nc ns r hp') : G E l M pc lv (.int y :: .int x :: st) hp nc ns r hp' := by
  subst hpc
  intro p e R s m args below meth c Q H locs ls C hP hS hz hl K
  exact lv_imul C.1 C.2.1 hd (kk p e R s m args below meth c Q H locs ls C hP hS hz hl K)
theorem g_iand {x y : Int32} (hd : decode M.2.1 pc = .ok (.iand, 1)) (hpc : pc + 1 = pc')  (kk : G E l M pc' lv (.int (x &&& y) :: st) hp nc ns r hp') : G E l M pc lv (.int y :: .int x :: st) hp nc ns r hp' := by
  subst hpc
  intro p e R s m args below meth c Q H locs ls C hP hS hz hl K
  exact lv_iand C.1 C.2.1 hd (kk p e R s m args below meth c Q H locs ls C hP hS hz hl K)
theorem g_ior {x y : Int32} (hd : decode M.2.1 pc = .ok (.ior, 1)) (hpc : pc + 1 = pc')  (kk : G E l M pc' lv (.int (x ||| y) :: st) hp nc ns r hp') : G E l M pc lv (.int y :: .int x :: st) hp nc ns r hp' := by
  subst hpc
  intro p e R s m args below meth c Q H locs ls C hP hS hz hl K
  exact lv_ior C.1 C.2.1 hd (kk p e R s m args below meth c Q H locs ls C hP hS hz hl K)
theorem g_ixor {x y : Int32} (hd : decode M.2.1 pc = .ok (.ixor, 1)) (hpc : pc + 1 = pc')  (kk : G E l M pc' lv (.int (x ^^^ y) :: st) hp nc ns r hp') : G E l M pc lv (.int y :: .int x :: st) hp nc ns r hp' := by
  subst hpc
  intro p e R s m args below meth c Q H locs ls C hP hS hz hl K
  exact lv_ixor C.1 C.2.1 hd (kk p e R s m args below meth c Q H locs ls C hP hS hz hl K)
theorem g_idiv {x y : Int32} (hd : decode M.2.1 pc = .ok (.idiv, 1)) (hpc : pc + 1 = pc') (hne : ¬ y = 0) (kk : G E l M pc' lv (.int (x / y) :: st) hp nc ns r hp') : G E l M pc lv (.int y :: .int x :: st) hp nc ns r hp' := by
  subst hpc
  intro p e R s m args below meth c Q H locs ls C hP hS hz hl K
  exact lv_idiv C.1 C.2.1 hd hne (kk p e R s m args below meth c Q H locs ls C hP hS hz hl K)
theorem g_irem {x y : Int32} (hd : decode M.2.1 pc = .ok (.irem, 1)) (hpc : pc + 1 = pc') (hne : ¬ y = 0) (kk : G E l M pc' lv (.int (jrem x y) :: st) hp nc ns r hp') : G E l M pc lv (.int y :: .int x :: st) hp nc ns r hp' := by
  subst hpc
  intro p e R s m args below meth c Q H locs ls C hP hS hz hl K
  exact lv_irem C.1 C.2.1 hd hne (kk p e R s m args below meth c Q H locs ls C hP hS hz hl K)
theorem g_ladd {x y : Int64} (hd : decode M.2.1 pc = .ok (.ladd, 1)) (hpc : pc + 1 = pc')  (kk : G E l M pc' lv (.long (x + y) :: st) hp nc ns r hp') : G E l M pc lv (.long y :: .long x :: st) hp nc ns r hp' := by
  subst hpc
  intro p e R s m args below meth c Q H locs ls C hP hS hz hl K
  exact lv_ladd C.1 C.2.1 hd (kk p e R s m args below meth c Q H locs ls C hP hS hz hl K)
theorem g_lmul {x y : Int64} (hd : decode M.2.1 pc = .ok (.lmul, 1)) (hpc : pc + 1 = pc')  (kk : G E l M pc' lv (.long (x * y) :: st) hp nc ns r hp') : G E l M pc lv (.long y :: .long x :: st) hp nc ns r hp' := by
  subst hpc
  intro p e R s m args below meth c Q H locs ls C hP hS hz hl K
  exact lv_lmul C.1 C.2.1 hd (kk p e R s m args below meth c Q H locs ls C hP hS hz hl K)
theorem g_ldiv {x y : Int64} (hd : decode M.2.1 pc = .ok (.ldiv, 1)) (hpc : pc + 1 = pc') (hne : ¬ y = 0) (kk : G E l M pc' lv (.long (x / y) :: st) hp nc ns r hp') : G E l M pc lv (.long y :: .long x :: st) hp nc ns r hp' := by
  subst hpc
  intro p e R s m args below meth c Q H locs ls C hP hS hz hl K
  exact lv_ldiv C.1 C.2.1 hd hne (kk p e R s m args below meth c Q H locs ls C hP hS hz hl K)
theorem g_lrem {x y : Int64} (hd : decode M.2.1 pc = .ok (.lrem, 1)) (hpc : pc + 1 = pc') (hne : ¬ y = 0) (kk : G E l M pc' lv (.long (jremL x y) :: st) hp nc ns r hp') : G E l M pc lv (.long y :: .long x :: st) hp nc ns r hp' := by
  subst hpc
  intro p e R s m args below meth c Q H locs ls C hP hS hz hl K
  exact lv_lrem C.1 C.2.1 hd hne (kk p e R s m args below meth c Q H locs ls C hP hS hz hl K)
theorem g_ishl {x y : Int32} (hd : decode M.2.1 pc = .ok (.ishl, 1)) (hpc : pc + 1 = pc')  (kk : G E l M pc' lv (.int (jshl x y) :: st) hp nc ns r hp') : G E l M pc lv (.int y :: .int x :: st) hp nc ns r hp' := by
  subst hpc
  intro p e R s m args below meth c Q H locs ls C hP hS hz hl K
  exact lv_ishl C.1 C.2.1 hd (kk p e R s m args below meth c Q H locs ls C hP hS hz hl K)
theorem g_ishr {x y : Int32} (hd : decode M.2.1 pc = .ok (.ishr, 1)) (hpc : pc + 1 = pc')  (kk : G E l M pc' lv (.int (jshr x y) :: st) hp nc ns r hp') : G E l M pc lv (.int y :: .int x :: st) hp nc ns r hp' := by
  subst hpc
  intro p e R s m args below meth c Q H locs ls C hP hS hz hl K
  exact lv_ishr C.1 C.2.1 hd (kk p e R s m args below meth c Q H locs ls C hP hS hz hl K)
theorem g_iushr {x y : Int32} (hd : decode M.2.1 pc = .ok (.iushr, 1)) (hpc : pc + 1 = pc')  (kk : G E l M pc' lv (.int (jushr x y) :: st) hp nc ns r hp') : G E l M pc lv (.int y :: .int x :: st) hp nc ns r hp' := by
  subst hpc
  intro p e R s m args below meth c Q H locs ls C hP hS hz hl K
  exact lv_iushr C.1 C.2.1 hd rfl (kk p e R s m args below meth c Q H locs ls C hP hS hz hl K)
theorem g_ineg {x : Int32} (hd : decode M.2.1 pc = .ok (.ineg, 1)) (hpc : pc + 1 = pc')  (kk : G E l M pc' lv (.int (-x) :: st) hp nc ns r hp') : G E l M pc lv (.int x :: st) hp nc ns r hp' := by
  subst hpc
  intro p e R s m args below meth c Q H locs ls C hP hS hz hl K
  exact lv_ineg C.1 C.2.1 hd (kk p e R s m args below meth c Q H locs ls C hP hS hz hl K)
theorem g_i2l {x : Int32} (hd : decode M.2.1 pc = .ok (.i2l, 1)) (hpc : pc + 1 = pc')  (kk : G E l M pc' lv (.long x.toInt64 :: st) hp nc ns r hp') : G E l M pc lv (.int x :: st) hp nc ns r hp' := by
  subst hpc
  intro p e R s m args below meth c Q H locs ls C hP hS hz hl K
  exact lv_i2l C.1 C.2.1 hd rfl (kk p e R s m args below meth c Q H locs ls C hP hS hz hl K)
theorem g_l2i {x : Int64} (hd : decode M.2.1 pc = .ok (.l2i, 1)) (hpc : pc + 1 = pc')  (kk : G E l M pc' lv (.int x.toInt32 :: st) hp nc ns r hp') : G E l M pc lv (.long x :: st) hp nc ns r hp' := by
  subst hpc
  intro p e R s m args below meth c Q H locs ls C hP hS hz hl K
  exact lv_l2i C.1 C.2.1 hd rfl (kk p e R s m args below meth c Q H locs ls C hP hS hz hl K)
theorem g_lcmp {x y : Int64} (hd : decode M.2.1 pc = .ok (.lcmp, 1)) (hpc : pc + 1 = pc')  (kk : G E l M pc' lv (.int (lg_cmp x y) :: st) hp nc ns r hp') : G E l M pc lv (.long y :: .long x :: st) hp nc ns r hp' := by
  subst hpc
  intro p e R s m args below meth c Q H locs ls C hP hS hz hl K
  exact W.lcmp C.1 C.2.1 hd (kk p e R s m args below meth c Q H locs ls C hP hS hz hl K)
theorem g_iconst {n : Int} (v : Int32) (hd : decode M.2.1 pc = .ok (.iconst n, 1)) (hpc : pc + 1 = pc') (hv : Int32.ofInt n = v) (kk : G E l M pc' lv (.int v :: st) hp nc ns r hp') : G E l M pc lv (st) hp nc ns r hp' := by
  subst hpc
  intro p e R s m args below meth c Q H locs ls C hP hS hz hl K
  exact lv_iconst C.1 C.2.1 hd hv (kk p e R s m args below meth c Q H locs ls C hP hS hz hl K)
theorem g_bipush {n : Int} (v : Int32) (hd : decode M.2.1 pc = .ok (.bipush n, 2)) (hpc : pc + 2 = pc') (hv : (Int8.ofInt n).toInt32 = v) (kk : G E l M pc' lv (.int v :: st) hp nc ns r hp') : G E l M pc lv (st) hp nc ns r hp' := by
  subst hpc
  intro p e R s m args below meth c Q H locs ls C hP hS hz hl K
  exact lv_bipush C.1 C.2.1 hd hv (kk p e R s m args below meth c Q H locs ls C hP hS hz hl K)
theorem g_sipush {n : Int} (v : Int32) (hd : decode M.2.1 pc = .ok (.sipush n, 3)) (hpc : pc + 3 = pc') (hv : (Int16.ofInt n).toInt32 = v) (kk : G E l M pc' lv (.int v :: st) hp nc ns r hp') : G E l M pc lv (st) hp nc ns r hp' := by
  subst hpc
  intro p e R s m args below meth c Q H locs ls C hP hS hz hl K
  exact lv_sipush C.1 C.2.1 hd hv (kk p e R s m args below meth c Q H locs ls C hP hS hz hl K)
theorem g_lconst {n : Fin 2} (v : Int64) (hd : decode M.2.1 pc = .ok (.lconst n, 1)) (hpc : pc + 1 = pc') (hv : Int64.ofNat (n : Nat) = v) (kk : G E l M pc' lv (.long v :: st) hp nc ns r hp') : G E l M pc lv (st) hp nc ns r hp' := by
  subst hpc
  intro p e R s m args below meth c Q H locs ls C hP hS hz hl K
  exact lv_lconst C.1 C.2.1 hd hv (kk p e R s m args below meth c Q H locs ls C hP hS hz hl K)
theorem g_ldc {ix : Nat} {v : Int32} (hd : decode M.2.1 pc = .ok (.ldc ix, 2)) (hpc : pc + 2 = pc') (hw : Cond.constant M.1.cls ix v ∈ wB) (kk : G E l M pc' lv (.int v :: st) hp nc ns r hp') : G E l M pc lv (st) hp nc ns r hp' := by
  subst hpc
  intro p e R s m args below meth c Q H locs ls C hP hS hz hl K
  exact lv_ldc C.1 C.2.1 C.2.2.2.1 (C.2.2.2.2.1 _ hw) hd (kk p e R s m args below meth c Q H locs ls C hP hS hz hl K)
theorem g_ldcw {ix : Nat} {v : Int32} (hd : decode M.2.1 pc = .ok (.ldc_w ix, 3)) (hpc : pc + 3 = pc') (hw : Cond.constant M.1.cls ix v ∈ wB) (kk : G E l M pc' lv (.int v :: st) hp nc ns r hp') : G E l M pc lv (st) hp nc ns r hp' := by
  subst hpc
  intro p e R s m args below meth c Q H locs ls C hP hS hz hl K
  exact lv_ldcw C.1 C.2.1 C.2.2.2.1 (C.2.2.2.2.1 _ hw) hd (kk p e R s m args below meth c Q H locs ls C hP hS hz hl K)
theorem g_ldc2 {ix : Nat} {v : Int64} (hd : decode M.2.1 pc = .ok (.ldc2_w ix, 3)) (hpc : pc + 3 = pc') (hw : Cond.constantLong M.1.cls ix v ∈ wB) (kk : G E l M pc' lv (.long v :: st) hp nc ns r hp') : G E l M pc lv (st) hp nc ns r hp' := by
  subst hpc
  intro p e R s m args below meth c Q H locs ls C hP hS hz hl K
  exact lv_ldc2 C.1 C.2.1 C.2.2.2.1 (C.2.2.2.2.1 _ hw) hd (kk p e R s m args below meth c Q H locs ls C hP hS hz hl K)
theorem g_iload_n {k : Fin 4} {x : Int32} (j i : Nat) (hd : decode M.2.1 pc = .ok (.iload_n k, 1)) (hpc : pc + 1 = pc') (hi : (k : Nat) = i) (hj : lv[j]? = some (i, .int x)) (kk : G E l M pc' lv (.int x :: st) hp nc ns r hp') : G E l M pc lv (st) hp nc ns r hp' := by
  subst hpc
  intro p e R s m args below meth c Q H locs ls C hP hS hz hl K
  exact lv_iload_n C.1 C.2.1 hd hi (x_lv_at hl j hj) (kk p e R s m args below meth c Q H locs ls C hP hS hz hl K)
theorem g_iload {i : Nat} {x : Int32} (j : Nat) (hd : decode M.2.1 pc = .ok (.iload i, 2)) (hpc : pc + 2 = pc') (hj : lv[j]? = some (i, .int x)) (kk : G E l M pc' lv (.int x :: st) hp nc ns r hp') : G E l M pc lv (st) hp nc ns r hp' := by
  subst hpc
  intro p e R s m args below meth c Q H locs ls C hP hS hz hl K
  exact lv_iload C.1 C.2.1 hd (x_lv_at hl j hj) (kk p e R s m args below meth c Q H locs ls C hP hS hz hl K)
theorem g_istore_n {k : Fin 4} (i : Nat) {x : Int32} (lv' : List (Nat × Value)) (hd : decode M.2.1 pc = .ok (.istore_n k, 1)) (hpc : pc + 1 = pc') (hi : (k : Nat) = i) (hn : i < M.2.2.1) (he : (i, Value.int x) :: lv.filter (fun q => !(q.1 == i) && !(q.1 + 1 == i && q.2.category == 2)) = lv') (kk : G E l M pc' lv' st hp nc ns r hp') : G E l M pc lv (.int x :: st) hp nc ns r hp' := by
  subst hpc
  intro p e R s m args below meth c Q H locs ls C hP hS hz hl K
  exact lv_istore_n C.1 C.2.1 hd hi hl hn (lv' := x_lv E lv') (by rw [x_lv_f1, ← he]; rfl) (fun ls' hl2 => kk p e R s m args below meth c Q H locs ls' C hP hS hz hl2 K)
theorem g_istore {i : Nat} {x : Int32} (lv' : List (Nat × Value)) (hd : decode M.2.1 pc = .ok (.istore i, 2)) (hpc : pc + 2 = pc')  (hn : i < M.2.2.1) (he : (i, Value.int x) :: lv.filter (fun q => !(q.1 == i) && !(q.1 + 1 == i && q.2.category == 2)) = lv') (kk : G E l M pc' lv' st hp nc ns r hp') : G E l M pc lv (.int x :: st) hp nc ns r hp' := by
  subst hpc
  intro p e R s m args below meth c Q H locs ls C hP hS hz hl K
  exact lv_istore C.1 C.2.1 hd hl hn (lv' := x_lv E lv') (by rw [x_lv_f1, ← he]; rfl) (fun ls' hl2 => kk p e R s m args below meth c Q H locs ls' C hP hS hz hl2 K)
theorem g_lload_n {k : Fin 4} {x : Int64} (j i : Nat) (hd : decode M.2.1 pc = .ok (.lload_n k, 1)) (hpc : pc + 1 = pc') (hi : (k : Nat) = i) (hj : lv[j]? = some (i, .long x)) (kk : G E l M pc' lv (.long x :: st) hp nc ns r hp') : G E l M pc lv (st) hp nc ns r hp' := by
  subst hpc
  intro p e R s m args below meth c Q H locs ls C hP hS hz hl K
  exact lv_lload_n C.1 C.2.1 hd hi (x_lv_at hl j hj) (kk p e R s m args below meth c Q H locs ls C hP hS hz hl K)
theorem g_lload {i : Nat} {x : Int64} (j : Nat) (hd : decode M.2.1 pc = .ok (.lload i, 2)) (hpc : pc + 2 = pc') (hj : lv[j]? = some (i, .long x)) (kk : G E l M pc' lv (.long x :: st) hp nc ns r hp') : G E l M pc lv (st) hp nc ns r hp' := by
  subst hpc
  intro p e R s m args below meth c Q H locs ls C hP hS hz hl K
  exact lv_lload C.1 C.2.1 hd (x_lv_at hl j hj) (kk p e R s m args below meth c Q H locs ls C hP hS hz hl K)
theorem g_lstore_n {k : Fin 4} (i : Nat) {x : Int64} (lv' : List (Nat × Value)) (hd : decode M.2.1 pc = .ok (.lstore_n k, 1)) (hpc : pc + 1 = pc') (hi : (k : Nat) = i) (hn : i + 1 < M.2.2.1) (he : (i, Value.long x) :: lv.filter (fun q => !(q.1 == i) && (!(q.1 == i + 1) && !(q.1 + 1 == i && q.2.category == 2))) = lv') (kk : G E l M pc' lv' st hp nc ns r hp') : G E l M pc lv (.long x :: st) hp nc ns r hp' := by
  subst hpc
  intro p e R s m args below meth c Q H locs ls C hP hS hz hl K
  exact lv_lstore_n C.1 C.2.1 hd hi hl hn (lv' := x_lv E lv') (by rw [x_lv_f2, ← he]; rfl) (fun ls' hl2 => kk p e R s m args below meth c Q H locs ls' C hP hS hz hl2 K)
theorem g_lstore {i : Nat} {x : Int64} (lv' : List (Nat × Value)) (hd : decode M.2.1 pc = .ok (.lstore i, 2)) (hpc : pc + 2 = pc')  (hn : i + 1 < M.2.2.1) (he : (i, Value.long x) :: lv.filter (fun q => !(q.1 == i) && (!(q.1 == i + 1) && !(q.1 + 1 == i && q.2.category == 2))) = lv') (kk : G E l M pc' lv' st hp nc ns r hp') : G E l M pc lv (.long x :: st) hp nc ns r hp' := by
  subst hpc
  intro p e R s m args below meth c Q H locs ls C hP hS hz hl K
  exact lv_lstore C.1 C.2.1 hd hl hn (lv' := x_lv E lv') (by rw [x_lv_f2, ← he]; rfl) (fun ls' hl2 => kk p e R s m args below meth c Q H locs ls' C hP hS hz hl2 K)
theorem g_aload_n {k : Fin 4} {x : Nat} (j i : Nat) (hd : decode M.2.1 pc = .ok (.aload_n k, 1)) (hpc : pc + 1 = pc') (hi : (k : Nat) = i) (hj : lv[j]? = some (i, .ref x)) (kk : G E l M pc' lv (.ref x :: st) hp nc ns r hp') : G E l M pc lv (st) hp nc ns r hp' := by
  subst hpc
  intro p e R s m args below meth c Q H locs ls C hP hS hz hl K
  exact lv_aload_n C.1 C.2.1 hd hi (x_lv_at hl j hj) (kk p e R s m args below meth c Q H locs ls C hP hS hz hl K)
theorem g_aload {i : Nat} {x : Nat} (j : Nat) (hd : decode M.2.1 pc = .ok (.aload i, 2)) (hpc : pc + 2 = pc') (hj : lv[j]? = some (i, .ref x)) (kk : G E l M pc' lv (.ref x :: st) hp nc ns r hp') : G E l M pc lv (st) hp nc ns r hp' := by
  subst hpc
  intro p e R s m args below meth c Q H locs ls C hP hS hz hl K
  exact lv_aload C.1 C.2.1 hd (x_lv_at hl j hj) (kk p e R s m args below meth c Q H locs ls C hP hS hz hl K)
theorem g_astore_n {k : Fin 4} (i : Nat) {x : Nat} (lv' : List (Nat × Value)) (hd : decode M.2.1 pc = .ok (.astore_n k, 1)) (hpc : pc + 1 = pc') (hi : (k : Nat) = i) (hn : i < M.2.2.1) (he : (i, Value.ref x) :: lv.filter (fun q => !(q.1 == i) && !(q.1 + 1 == i && q.2.category == 2)) = lv') (kk : G E l M pc' lv' st hp nc ns r hp') : G E l M pc lv (.ref x :: st) hp nc ns r hp' := by
  subst hpc
  intro p e R s m args below meth c Q H locs ls C hP hS hz hl K
  exact lv_astore_n C.1 C.2.1 hd hi hl hn (lv' := x_lv E lv') (by rw [x_lv_f1, ← he]; rfl) (fun ls' hl2 => kk p e R s m args below meth c Q H locs ls' C hP hS hz hl2 K)
theorem g_astore {i : Nat} {x : Nat} (lv' : List (Nat × Value)) (hd : decode M.2.1 pc = .ok (.astore i, 2)) (hpc : pc + 2 = pc')  (hn : i < M.2.2.1) (he : (i, Value.ref x) :: lv.filter (fun q => !(q.1 == i) && !(q.1 + 1 == i && q.2.category == 2)) = lv') (kk : G E l M pc' lv' st hp nc ns r hp') : G E l M pc lv (.ref x :: st) hp nc ns r hp' := by
  subst hpc
  intro p e R s m args below meth c Q H locs ls C hP hS hz hl K
  exact lv_astore C.1 C.2.1 hd hl hn (lv' := x_lv E lv') (by rw [x_lv_f1, ← he]; rfl) (fun ls' hl2 => kk p e R s m args below meth c Q H locs ls' C hP hS hz hl2 K)
theorem g_sload_n {k : Fin 4} {x : UInt32} (j i : Nat) (hd : decode M.2.1 pc = .ok (.aload_n k, 1)) (hpc : pc + 1 = pc') (hi : (k : Nat) = i) (hj : lv[j]? = some (i, .float x)) (kk : G E l M pc' lv (.float x :: st) hp nc ns r hp') : G E l M pc lv (st) hp nc ns r hp' := by
  subst hpc
  intro p e R s m args below meth c Q H locs ls C hP hS hz hl K
  exact lv_aload_n C.1 C.2.1 hd hi (x_lv_at hl j hj) (kk p e R s m args below meth c Q H locs ls C hP hS hz hl K)
theorem g_iinc {i : Nat} {n : Int} {x : Int32} (d : Int32) (j : Nat) (lv' : List (Nat × Value)) (hd : decode M.2.1 pc = .ok (.iinc i n, 3)) (hpc : pc + 3 = pc') (hj : lv[j]? = some (i, .int x)) (hv : Int32.ofInt n = d) (hn : i < M.2.2.1) (he : (i, Value.int (x + d)) :: lv.filter (fun q => !(q.1 == i) && !(q.1 + 1 == i && q.2.category == 2)) = lv') (kk : G E l M pc' lv' st hp nc ns r hp') : G E l M pc lv st hp nc ns r hp' := by
  subst hpc
  intro p e R s m args below meth c Q H locs ls C hP hS hz hl K
  exact lv_iinc C.1 C.2.1 hd hl (k := j) (x := x) (by rw [x_lv, List.getElem?_map, hj]; rfl) (by rw [hv]) hn (lv' := x_lv E lv') (by rw [x_lv_f1, ← he]; rfl) (fun ls' hl2 => kk p e R s m args below meth c Q H locs ls' C hP hS hz hl2 K)
theorem g_dup {a : Value} (hd : decode M.2.1 pc = .ok (.dup, 1)) (hpc : pc + 1 = pc') (h1 : a.category = 1) (kk : G E l M pc' lv (a :: a :: st) hp nc ns r hp') : G E l M pc lv (a :: st) hp nc ns r hp' := by
  subst hpc
  intro p e R s m args below meth c Q H locs ls C hP hS hz hl K
  exact lv_dup C.1 C.2.1 hd ((x_v_cat E a).trans h1) (kk p e R s m args below meth c Q H locs ls C hP hS hz hl K)
theorem g_pop {a : Value} (hd : decode M.2.1 pc = .ok (.pop, 1)) (hpc : pc + 1 = pc') (h1 : a.category = 1) (kk : G E l M pc' lv (st) hp nc ns r hp') : G E l M pc lv (a :: st) hp nc ns r hp' := by
  subst hpc
  intro p e R s m args below meth c Q H locs ls C hP hS hz hl K
  exact lv_pop C.1 C.2.1 hd ((x_v_cat E a).trans h1) (kk p e R s m args below meth c Q H locs ls C hP hS hz hl K)
theorem g_dup2 {a b : Value} (hd : decode M.2.1 pc = .ok (.dup2, 1)) (hpc : pc + 1 = pc') (h1 : a.category = 1) (h2 : b.category = 1) (kk : G E l M pc' lv (a :: b :: a :: b :: st) hp nc ns r hp') : G E l M pc lv (a :: b :: st) hp nc ns r hp' := by
  subst hpc
  intro p e R s m args below meth c Q H locs ls C hP hS hz hl K
  exact lv_dup2_11 C.1 C.2.1 hd ((x_v_cat E a).trans h1) ((x_v_cat E b).trans h2) (kk p e R s m args below meth c Q H locs ls C hP hS hz hl K)
theorem g_icmp_eq {x y : Int32} {off : Int} (tgt : Nat) (hd : decode M.2.1 pc = .ok (.if_icmp .eq off, 3)) (ht : (pc : Int) + off = (tgt : Int)) (hpc : pc + 3 = pc') (kt : x = y → G E l M tgt lv st hp nc ns r hp') (kf : ¬ x = y → G E l M pc' lv st hp nc ns r hp') : G E l M pc lv (.int y :: .int x :: st) hp nc ns r hp' := by
  subst hpc
  intro p e R s m args below meth c Q H locs ls C hP hS hz hl K
  exact lv_icmp_eq C.1 C.2.1 hd ht (fun h => kt h p e R s m args below meth c Q H locs ls C hP hS hz hl K) (fun h => kf h p e R s m args below meth c Q H locs ls C hP hS hz hl K)
theorem g_if_eq {x : Int32} {off : Int} (tgt : Nat) (hd : decode M.2.1 pc = .ok (.ifCond .eq off, 3)) (ht : (pc : Int) + off = (tgt : Int)) (hpc : pc + 3 = pc') (kt : x = 0 → G E l M tgt lv st hp nc ns r hp') (kf : ¬ x = 0 → G E l M pc' lv st hp nc ns r hp') : G E l M pc lv (.int x :: st) hp nc ns r hp' := by
  subst hpc
  intro p e R s m args below meth c Q H locs ls C hP hS hz hl K
  exact lv_if_eq C.1 C.2.1 hd ht (fun h => kt h p e R s m args below meth c Q H locs ls C hP hS hz hl K) (fun h => kf h p e R s m args below meth c Q H locs ls C hP hS hz hl K)
theorem g_icmp_ne {x y : Int32} {off : Int} (tgt : Nat) (hd : decode M.2.1 pc = .ok (.if_icmp .ne off, 3)) (ht : (pc : Int) + off = (tgt : Int)) (hpc : pc + 3 = pc') (kt : ¬ x = y → G E l M tgt lv st hp nc ns r hp') (kf : x = y → G E l M pc' lv st hp nc ns r hp') : G E l M pc lv (.int y :: .int x :: st) hp nc ns r hp' := by
  subst hpc
  intro p e R s m args below meth c Q H locs ls C hP hS hz hl K
  exact lv_icmp_ne C.1 C.2.1 hd ht (fun h => kt h p e R s m args below meth c Q H locs ls C hP hS hz hl K) (fun h => kf h p e R s m args below meth c Q H locs ls C hP hS hz hl K)
theorem g_if_ne {x : Int32} {off : Int} (tgt : Nat) (hd : decode M.2.1 pc = .ok (.ifCond .ne off, 3)) (ht : (pc : Int) + off = (tgt : Int)) (hpc : pc + 3 = pc') (kt : ¬ x = 0 → G E l M tgt lv st hp nc ns r hp') (kf : x = 0 → G E l M pc' lv st hp nc ns r hp') : G E l M pc lv (.int x :: st) hp nc ns r hp' := by
  subst hpc
  intro p e R s m args below meth c Q H locs ls C hP hS hz hl K
  exact lv_if_ne C.1 C.2.1 hd ht (fun h => kt h p e R s m args below meth c Q H locs ls C hP hS hz hl K) (fun h => kf h p e R s m args below meth c Q H locs ls C hP hS hz hl K)
theorem g_icmp_lt {x y : Int32} {off : Int} (tgt : Nat) (hd : decode M.2.1 pc = .ok (.if_icmp .lt off, 3)) (ht : (pc : Int) + off = (tgt : Int)) (hpc : pc + 3 = pc') (kt : x < y → G E l M tgt lv st hp nc ns r hp') (kf : ¬ x < y → G E l M pc' lv st hp nc ns r hp') : G E l M pc lv (.int y :: .int x :: st) hp nc ns r hp' := by
  subst hpc
  intro p e R s m args below meth c Q H locs ls C hP hS hz hl K
  exact lv_icmp_lt C.1 C.2.1 hd ht (fun h => kt h p e R s m args below meth c Q H locs ls C hP hS hz hl K) (fun h => kf h p e R s m args below meth c Q H locs ls C hP hS hz hl K)
theorem g_if_lt {x : Int32} {off : Int} (tgt : Nat) (hd : decode M.2.1 pc = .ok (.ifCond .lt off, 3)) (ht : (pc : Int) + off = (tgt : Int)) (hpc : pc + 3 = pc') (kt : x < 0 → G E l M tgt lv st hp nc ns r hp') (kf : ¬ x < 0 → G E l M pc' lv st hp nc ns r hp') : G E l M pc lv (.int x :: st) hp nc ns r hp' := by
  subst hpc
  intro p e R s m args below meth c Q H locs ls C hP hS hz hl K
  exact lv_if_lt C.1 C.2.1 hd ht (fun h => kt h p e R s m args below meth c Q H locs ls C hP hS hz hl K) (fun h => kf h p e R s m args below meth c Q H locs ls C hP hS hz hl K)
theorem g_icmp_ge {x y : Int32} {off : Int} (tgt : Nat) (hd : decode M.2.1 pc = .ok (.if_icmp .ge off, 3)) (ht : (pc : Int) + off = (tgt : Int)) (hpc : pc + 3 = pc') (kt : y ≤ x → G E l M tgt lv st hp nc ns r hp') (kf : ¬ y ≤ x → G E l M pc' lv st hp nc ns r hp') : G E l M pc lv (.int y :: .int x :: st) hp nc ns r hp' := by
  subst hpc
  intro p e R s m args below meth c Q H locs ls C hP hS hz hl K
  exact lv_icmp_ge C.1 C.2.1 hd ht (fun h => kt h p e R s m args below meth c Q H locs ls C hP hS hz hl K) (fun h => kf h p e R s m args below meth c Q H locs ls C hP hS hz hl K)
theorem g_if_ge {x : Int32} {off : Int} (tgt : Nat) (hd : decode M.2.1 pc = .ok (.ifCond .ge off, 3)) (ht : (pc : Int) + off = (tgt : Int)) (hpc : pc + 3 = pc') (kt : 0 ≤ x → G E l M tgt lv st hp nc ns r hp') (kf : ¬ 0 ≤ x → G E l M pc' lv st hp nc ns r hp') : G E l M pc lv (.int x :: st) hp nc ns r hp' := by
  subst hpc
  intro p e R s m args below meth c Q H locs ls C hP hS hz hl K
  exact lv_if_ge C.1 C.2.1 hd ht (fun h => kt h p e R s m args below meth c Q H locs ls C hP hS hz hl K) (fun h => kf h p e R s m args below meth c Q H locs ls C hP hS hz hl K)
theorem g_icmp_gt {x y : Int32} {off : Int} (tgt : Nat) (hd : decode M.2.1 pc = .ok (.if_icmp .gt off, 3)) (ht : (pc : Int) + off = (tgt : Int)) (hpc : pc + 3 = pc') (kt : y < x → G E l M tgt lv st hp nc ns r hp') (kf : ¬ y < x → G E l M pc' lv st hp nc ns r hp') : G E l M pc lv (.int y :: .int x :: st) hp nc ns r hp' := by
  subst hpc
  intro p e R s m args below meth c Q H locs ls C hP hS hz hl K
  exact lv_icmp_gt C.1 C.2.1 hd ht (fun h => kt h p e R s m args below meth c Q H locs ls C hP hS hz hl K) (fun h => kf h p e R s m args below meth c Q H locs ls C hP hS hz hl K)
theorem g_if_gt {x : Int32} {off : Int} (tgt : Nat) (hd : decode M.2.1 pc = .ok (.ifCond .gt off, 3)) (ht : (pc : Int) + off = (tgt : Int)) (hpc : pc + 3 = pc') (kt : 0 < x → G E l M tgt lv st hp nc ns r hp') (kf : ¬ 0 < x → G E l M pc' lv st hp nc ns r hp') : G E l M pc lv (.int x :: st) hp nc ns r hp' := by
  subst hpc
  intro p e R s m args below meth c Q H locs ls C hP hS hz hl K
  exact lv_if_gt C.1 C.2.1 hd ht (fun h => kt h p e R s m args below meth c Q H locs ls C hP hS hz hl K) (fun h => kf h p e R s m args below meth c Q H locs ls C hP hS hz hl K)
theorem g_icmp_le {x y : Int32} {off : Int} (tgt : Nat) (hd : decode M.2.1 pc = .ok (.if_icmp .le off, 3)) (ht : (pc : Int) + off = (tgt : Int)) (hpc : pc + 3 = pc') (kt : x ≤ y → G E l M tgt lv st hp nc ns r hp') (kf : ¬ x ≤ y → G E l M pc' lv st hp nc ns r hp') : G E l M pc lv (.int y :: .int x :: st) hp nc ns r hp' := by
  subst hpc
  intro p e R s m args below meth c Q H locs ls C hP hS hz hl K
  exact lv_icmp_le C.1 C.2.1 hd ht (fun h => kt h p e R s m args below meth c Q H locs ls C hP hS hz hl K) (fun h => kf h p e R s m args below meth c Q H locs ls C hP hS hz hl K)
theorem g_if_le {x : Int32} {off : Int} (tgt : Nat) (hd : decode M.2.1 pc = .ok (.ifCond .le off, 3)) (ht : (pc : Int) + off = (tgt : Int)) (hpc : pc + 3 = pc') (kt : x ≤ 0 → G E l M tgt lv st hp nc ns r hp') (kf : ¬ x ≤ 0 → G E l M pc' lv st hp nc ns r hp') : G E l M pc lv (.int x :: st) hp nc ns r hp' := by
  subst hpc
  intro p e R s m args below meth c Q H locs ls C hP hS hz hl K
  exact lv_if_le C.1 C.2.1 hd ht (fun h => kt h p e R s m args below meth c Q H locs ls C hP hS hz hl K) (fun h => kf h p e R s m args below meth c Q H locs ls C hP hS hz hl K)
theorem g_goto {off : Int} (tgt : Nat) (hd : decode M.2.1 pc = .ok (.goto off, 3)) (ht : (pc : Int) + off = (tgt : Int)) (kk : G E l M tgt lv st hp nc ns r hp') : G E l M pc lv st hp nc ns r hp' := by
  intro p e R s m args below meth c Q H locs ls C hP hS hz hl K
  exact lv_goto C.1 C.2.1 hd ht (kk p e R s m args below meth c Q H locs ls C hP hS hz hl K)
theorem g_tsw_in {dflt lo hi : Int} {offs : Array Int} {len : Nat} {x : Int32} {off : Int} (tgt : Nat) (hd : decode M.2.1 pc = .ok (.tableswitch dflt lo hi offs, len)) (h1 : ¬ x.toInt < lo) (h2 : ¬ hi < x.toInt) (ho : offs[(x.toInt - lo).toNat]? = some off) (ht : (pc : Int) + off = (tgt : Int)) (kk : G E l M tgt lv st hp nc ns r hp') : G E l M pc lv (.int x :: st) hp nc ns r hp' := by
  intro p e R s m args below meth c Q H locs ls C hP hS hz hl K
  exact lv_tableIn C.1 C.2.1 hd h1 h2 ho ht (kk p e R s m args below meth c Q H locs ls C hP hS hz hl K)
theorem g_tsw_out {dflt lo hi : Int} {offs : Array Int} {len : Nat} {x : Int32} (tgt : Nat) (hd : decode M.2.1 pc = .ok (.tableswitch dflt lo hi offs, len)) (h : x.toInt < lo ∨ hi < x.toInt) (ht : (pc : Int) + dflt = (tgt : Int)) (kk : G E l M tgt lv st hp nc ns r hp') : G E l M pc lv (.int x :: st) hp nc ns r hp' := by
  intro p e R s m args below meth c Q H locs ls C hP hS hz hl K
  exact lv_tableOut C.1 C.2.1 hd h ht (kk p e R s m args below meth c Q H locs ls C hP hS hz hl K)
end
/-! ===== fields ===== -/
def xgV (h : List xC) (p ci k : Nat) : Option Value := match h[p]? with
  | some (.inr (c, fs)) => if c = ci then fs[k]? else none
  | _ => none
def xgI (h : List xC) (p ci k : Nat) : Option Int32 := match xgV h p ci k with
  | some (.int v) => some v
  | _ => none
def xgL (h : List xC) (p ci k : Nat) : Option Int64 := match xgV h p ci k with
  | some (.long v) => some v
  | _ => none
def xgR (h : List xC) (p ci k : Nat) : Option Nat := match xgV h p ci k with
  | some (.ref v) => some v
  | _ => none
def xpV (h : List xC) (p ci k : Nat) (v : Value) : Option (List xC) := match h[p]? with
  | some (.inr (c, fs)) => if c = ci ∧ k < fs.length then some (h.set p (.inr (c, fs.set k v))) else none
  | _ => none
/-- the object at p is of the class -/
def xck (h : List xC) (p ci : Nat) : Option Unit := match h[p]? with
  | some (.inr (c, _)) => if c = ci then some () else none
  | _ => none
theorem xgV_e {h : List xC} {p ci k : Nat} {v : Value} (e : xgV h p ci k = some v) : ∃ fs, h[p]? = some (.inr (ci, fs)) ∧ fs[k]? = some v := by
  unfold xgV at e
  split at e
  · rename_i c fs h1
    split at e
    · rename_i h2; subst h2; exact ⟨fs, h1, e⟩
    · cases e
  · cases e
theorem xgI_e {h : List xC} {p ci k : Nat} {v : Int32} (e : xgI h p ci k = some v) : xgV h p ci k = some (.int v) := by
  unfold xgI at e
  split at e
  · rename_i w h1; cases e; exact h1
  · cases e
theorem xgL_e {h : List xC} {p ci k : Nat} {v : Int64} (e : xgL h p ci k = some v) : xgV h p ci k = some (.long v) := by
  unfold xgL at e
  split at e
  · rename_i w h1; cases e; exact h1
  · cases e
theorem xgR_e {h : List xC} {p ci k : Nat} {v : Nat} (e : xgR h p ci k = some v) : xgV h p ci k = some (.ref v) := by
  unfold xgR at e
  split at e
  · rename_i w h1; cases e; exact h1
  · cases e
theorem xpV_e {h h' : List xC} {p ci k : Nat} {v : Value} (e : xpV h p ci k v = some h') : ∃ fs, h[p]? = some (.inr (ci, fs)) ∧ k < fs.length ∧ h' = h.set p (.inr (ci, fs.set k v)) := by
  unfold xpV at e
  split at e
  · rename_i c fs h1
    split at e
    · rename_i h2; obtain ⟨h2, h3⟩ := h2; subst h2; exact ⟨fs, h1, h3, (Option.some.inj e).symm⟩
    · cases e
  · cases e
theorem xck_e {h : List xC} {p ci : Nat} {u : Unit} (e : xck h p ci = some u) : ∃ fs, h[p]? = some (.inr (ci, fs)) := by
  unfold xck at e
  split at e
  · rename_i c fs h1
    split at e
    · rename_i h2; subst h2; exact ⟨fs, h1⟩
    · cases e
  · cases e
def x_F (own : String) (ix ci k : Nat) : Prop := ∃ (C : String) (T : u_T) (N : Nat), xCl[ci]? = some (C, T, N) ∧ (∀ w ∈ u_ws C T N, w ∈ wB) ∧ k < N ∧ (Cond.fieldLink own ix (T k).1 (T k).2.1 (T k).2.2.1 ∈ wB ∨ ∃ host, (own, ix, (T k).1, (T k).2.1, (T k).2.2.1, host) ∈ xNF)
def x_FW (own : String) (ix ci k : Nat) (ty : FieldType) (fin : Bool) : Prop := ∃ (C : String) (T : u_T) (N : Nat) (ty0 : Nat → FieldType), xCl[ci]? = some (C, T, N) ∧ (∀ w ∈ u_ws C T N, w ∈ wB) ∧ (∀ k, k < N → parseFieldDescriptor (T k).2.2.1 = some (ty0 k)) ∧ (∀ a, a < N → ∀ b, b < N → a ≠ b → (T a).2.1 ≠ (T b).2.1) ∧ k < N ∧ parseFieldDescriptor (T k).2.2.1 = some ty ∧ (T k).2.2.2 = fin ∧ (fin = true → (T k).1 = own) ∧ (Cond.fieldLink own ix (T k).1 (T k).2.1 (T k).2.2.1 ∈ wB ∨ (fin = false ∧ ∃ host, (own, ix, (T k).1, (T k).2.1, (T k).2.2.1, host) ∈ xNF))
section
variable {E : xEn} {l : Launch} {M : xM} {pc pc' : Nat} {lv lv' : List (Nat × Value)} {st : List Value} {hp hp1 : List xC} {nc ns : Nat} {r : Option Value} {hp' : List xC}
theorem g_getV {ix ci k q : Nat} {v : Value} (F : x_F M.1.cls ix ci k) (hv : xgV hp q ci k = some v) (hd : decode M.2.1 pc = .ok (.getfield ix, 3)) (hpc : pc + 3 = pc') (kk : G E l M pc' lv (v :: st) hp nc ns r hp') : G E l M pc lv (.ref q :: st) hp nc ns r hp' := by
  subst hpc
  intro p e R s m args below meth c Q H locs ls C hP hS hz hl K
  obtain ⟨Cn, T, N, hc, hin, hk, hlink⟩ := F
  obtain ⟨fs, h1, h2⟩ := xgV_e hv
  have he : (x_w E hp)[q]? = some (x_lo E q, .inr (ci, fs.map (x_v E))) := x_w_at h1
  have hv2 : (fs.map (x_v E))[k]? = some (x_v E v) := by rw [List.getElem?_map, h2]; rfl
  have k2 := kk p e R s m args below meth c Q H locs ls C hP hS hz hl K
  rcases hlink with hlink | ⟨host, hlink⟩
  · exact va_get C.1 C.2.1 C.2.2.2.2.1 hin C.2.2.2.1 C.2.2.2.2.2.2.1.1 hP q he hc k hk (C.2.2.2.2.1 _ hlink) (fun _ h => h) hv2 hd k2
  · exact va_getN C.1 C.2.1 C.2.2.2.2.1 hin C.2.2.2.1 C.2.2.2.2.2.2.1.1 hP q he hc k hk (va_Nw.use rfl (C.2.2.2.2.2.2.1.2.1.1 _ hlink)) (fun _ h => h) hv2 hd k2
theorem g_getI {ix ci k q : Nat} {v : Int32} (F : x_F M.1.cls ix ci k) (hv : xgI hp q ci k = some v) (hd : decode M.2.1 pc = .ok (.getfield ix, 3)) (hpc : pc + 3 = pc') (kk : G E l M pc' lv (.int v :: st) hp nc ns r hp') : G E l M pc lv (.ref q :: st) hp nc ns r hp' := g_getV F (xgI_e hv) hd hpc kk
theorem g_getL {ix ci k q : Nat} {v : Int64} (F : x_F M.1.cls ix ci k) (hv : xgL hp q ci k = some v) (hd : decode M.2.1 pc = .ok (.getfield ix, 3)) (hpc : pc + 3 = pc') (kk : G E l M pc' lv (.long v :: st) hp nc ns r hp') : G E l M pc lv (.ref q :: st) hp nc ns r hp' := g_getV F (xgL_e hv) hd hpc kk
theorem g_getR {ix ci k q : Nat} {v : Nat} (F : x_F M.1.cls ix ci k) (hv : xgR hp q ci k = some v) (hd : decode M.2.1 pc = .ok (.getfield ix, 3)) (hpc : pc + 3 = pc') (kk : G E l M pc' lv (.ref v :: st) hp nc ns r hp') : G E l M pc lv (.ref q :: st) hp nc ns r hp' := g_getV F (xgR_e hv) hd hpc kk
theorem g_putV {ix ci k q : Nat} {v : Value} {ty : FieldType} {fin : Bool} (F : x_FW M.1.cls ix ci k ty fin) (hv : xpV hp q ci k v = some hp1) (hfin : fin = true → M.1.name = "<init>") (hn : narrow ty (x_v E v) = x_v E v) (hf : fits ty (x_v E v) = true) (hd : decode M.2.1 pc = .ok (.putfield ix, 3)) (hpc : pc + 3 = pc') (kk : G E l M pc' lv st hp1 nc ns r hp') : G E l M pc lv (v :: .ref q :: st) hp nc ns r hp' := by
  subst hpc
  intro p e R s m args below meth c Q H locs ls C hP hS hz hl K
  obtain ⟨Cn, T, N, ty0, hc, hin, hty, hnm, hk, hpt, hfi, hdecl, hlink⟩ := F
  obtain ⟨fs, h1, h2, h3⟩ := xpV_e hv
  subst h3
  have he : (x_w E hp)[q]? = some (x_lo E q, .inr (ci, fs.map (x_v E))) := x_w_at h1
  have hset : (x_w E hp).set q (x_lo E q, .inr (ci, (fs.map (x_v E)).set k (x_v E v))) = x_w E (hp.set q (.inr (ci, fs.set k v))) := by
    rw [← x_w_set]
    congr 1
    show _ = (_, Sum.inr (ci, (fs.set k v).map (x_v E)))
    rw [List.map_set]
  have k2 : ∀ (H1 : Heap) (locs1 : List Loc), va_P E.1 xCl ((x_w E hp).set q (x_lo E q, .inr (ci, (fs.map (x_v E)).set k (x_v E v)))) H1 → va_D (x_A E) ((x_w E hp).set q (x_lo E q, .inr (ci, (fs.map (x_v E)).set k (x_v E v)))) → va_S (x_A E) s.heap H1 locs1 → W p l e R s m args below meth c H1 locs1 nc ns Q (F0 m (pc + 3) ls (st.map (x_v E))) := by
    intro H1 locs1 hP1 _ hS1
    rw [hset] at hP1
    exact kk p e R s m args below meth c Q H1 locs1 ls C hP1 hS1 (by rw [List.length_set]; exact hz) hl K
  cases fin with
  | true =>
    rcases hlink with hlink | ⟨hx, -⟩
    · exact va_putF C.1 C.2.1 C.2.2.2.2.1 hin ty0 hty hnm C.2.2.2.1 C.2.2.2.2.2.2.1.1 hP x_w_D hS q he hc k hk (C.2.2.2.2.1 _ hlink) (fun _ h => h) hfi (C.2.2.2.2.2.1 (hfin rfl)) (hdecl rfl) hpt hn hf (by rw [List.length_map]; exact h2) hd k2
    · cases hx
  | false =>
    rcases hlink with hlink | ⟨-, host, hlink⟩
    · exact va_put C.1 C.2.1 C.2.2.2.2.1 hin ty0 hty hnm C.2.2.2.1 C.2.2.2.2.2.2.1.1 hP x_w_D hS q he hc k hk (C.2.2.2.2.1 _ hlink) (fun _ h => h) hfi hpt hn hf (by rw [List.length_map]; exact h2) hd k2
    · exact va_putN C.1 C.2.1 C.2.2.2.2.1 hin ty0 hty hnm C.2.2.2.1 C.2.2.2.2.2.2.1.1 hP x_w_D hS q he hc k hk (va_Nw.use rfl (C.2.2.2.2.2.2.1.2.1.1 _ hlink)) (fun _ h => h) hfi hpt hn hf (by rw [List.length_map]; exact h2) hd k2
end
