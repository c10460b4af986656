section GR
variable {p : Program} {l : Launch} {e : Env} {R : Room} {s : State} {m : MethodId} {args : Array Value} {below : List Frame} {meth : Method} {c : Code} {D : va_G} {cy : Nat → ClassId} {ad : Nat → Nat} {A : Nat → Prop} {L : List Nat} {nL cells slots : Nat} {Q : State → Prop} {cc : ByteArray} {own : String} {pc : Nat} {lv : List (Nat × Value)} {stk : List Value} {st : St} {ρ : Type} {res : ρ}
theorem g_iconst (C : Cx p s m args c cc own nL D cy ad A L) {n : Int} {v : Int32} (hd : decode cc pc = .ok (.iconst n, 1)) (hv : Int32.ofInt n = v)
    (kk : Gm p l e R s m args below meth c D cy ad A L nL cells slots Q (pc + 1) lv (.int v :: stk) st) : Gm p l e R s m args below meth c D cy ad A L nL cells slots Q pc lv stk st := fun H locs ls hP hS hl => lv_iconst C.1 C.2.1 hd hv (kk H locs ls hP hS hl)
theorem g_bipush (C : Cx p s m args c cc own nL D cy ad A L) {n : Int} {v : Int32} (hd : decode cc pc = .ok (.bipush n, 2)) (hv : (Int8.ofInt n).toInt32 = v)
    (kk : Gm p l e R s m args below meth c D cy ad A L nL cells slots Q (pc + 2) lv (.int v :: stk) st) : Gm p l e R s m args below meth c D cy ad A L nL cells slots Q pc lv stk st := fun H locs ls hP hS hl => lv_bipush C.1 C.2.1 hd hv (kk H locs ls hP hS hl)
theorem g_sipush (C : Cx p s m args c cc own nL D cy ad A L) {n : Int} {v : Int32} (hd : decode cc pc = .ok (.sipush n, 3)) (hv : (Int16.ofInt n).toInt32 = v)
    (kk : Gm p l e R s m args below meth c D cy ad A L nL cells slots Q (pc + 3) lv (.int v :: stk) st) : Gm p l e R s m args below meth c D cy ad A L nL cells slots Q pc lv stk st := fun H locs ls hP hS hl => lv_sipush C.1 C.2.1 hd hv (kk H locs ls hP hS hl)
theorem g_ldcw (C : Cx p s m args c cc own nL D cy ad A L) {index : Nat} {v : Int32} (hc : Cond.constant own index v ∈ gtb) (hd : decode cc pc = .ok (.ldc_w index, 3))
    (kk : Gm p l e R s m args below meth c D cy ad A L nL cells slots Q (pc + 3) lv (.int v :: stk) st) : Gm p l e R s m args below meth c D cy ad A L nL cells slots Q pc lv stk st := fun H locs ls hP hS hl => lv_ldcw C.1 C.2.1 C.2.2.2.1 (C.2.2.2.2.1 _ hc) hd (kk H locs ls hP hS hl)
theorem g_ldc2 (C : Cx p s m args c cc own nL D cy ad A L) {index : Nat} {v : Int64} (hc : Cond.constantLong own index v ∈ gtb) (hd : decode cc pc = .ok (.ldc2_w index, 3))
    (kk : Gm p l e R s m args below meth c D cy ad A L nL cells slots Q (pc + 3) lv (.long v :: stk) st) : Gm p l e R s m args below meth c D cy ad A L nL cells slots Q pc lv stk st := fun H locs ls hP hS hl => lv_ldc2 C.1 C.2.1 C.2.2.2.1 (C.2.2.2.2.1 _ hc) hd (kk H locs ls hP hS hl)
theorem g_iload_n (C : Cx p s m args c cc own nL D cy ad A L) {k : Fin 4} {i : Nat} {x : Int32} (hd : decode cc pc = .ok (.iload_n k, 1)) (hi : (k : Nat) = i) (q : Nat) (hq : lv[q]? = some (i, .int x))
    (kk : Gm p l e R s m args below meth c D cy ad A L nL cells slots Q (pc + 1) lv (.int x :: stk) st) : Gm p l e R s m args below meth c D cy ad A L nL cells slots Q pc lv stk st := fun H locs ls hP hS hl => lv_iload_n C.1 C.2.1 hd hi (lv_at hl q hq) (kk H locs ls hP hS hl)
theorem g_iload (C : Cx p s m args c cc own nL D cy ad A L) {i : Nat} {x : Int32} (hd : decode cc pc = .ok (.iload i, 2)) (q : Nat) (hq : lv[q]? = some (i, .int x))
    (kk : Gm p l e R s m args below meth c D cy ad A L nL cells slots Q (pc + 2) lv (.int x :: stk) st) : Gm p l e R s m args below meth c D cy ad A L nL cells slots Q pc lv stk st := fun H locs ls hP hS hl => lv_iload C.1 C.2.1 hd (lv_at hl q hq) (kk H locs ls hP hS hl)
theorem g_aload_n (C : Cx p s m args c cc own nL D cy ad A L) {k : Fin 4} {i : Nat} {x : Nat} (hd : decode cc pc = .ok (.aload_n k, 1)) (hi : (k : Nat) = i) (q : Nat) (hq : lv[q]? = some (i, .ref x))
    (kk : Gm p l e R s m args below meth c D cy ad A L nL cells slots Q (pc + 1) lv (.ref x :: stk) st) : Gm p l e R s m args below meth c D cy ad A L nL cells slots Q pc lv stk st := fun H locs ls hP hS hl => lv_aload_n C.1 C.2.1 hd hi (lv_at hl q hq) (kk H locs ls hP hS hl)
theorem g_aload (C : Cx p s m args c cc own nL D cy ad A L) {i : Nat} {x : Nat} (hd : decode cc pc = .ok (.aload i, 2)) (q : Nat) (hq : lv[q]? = some (i, .ref x))
    (kk : Gm p l e R s m args below meth c D cy ad A L nL cells slots Q (pc + 2) lv (.ref x :: stk) st) : Gm p l e R s m args below meth c D cy ad A L nL cells slots Q pc lv stk st := fun H locs ls hP hS hl => lv_aload C.1 C.2.1 hd (lv_at hl q hq) (kk H locs ls hP hS hl)
theorem g_istore_n (C : Cx p s m args c cc own nL D cy ad A L) {k : Fin 4} {i : Nat} {x : Int32} {lv' : Int32 → List (Nat × Value)} {B : Int32 → Option ρ} (hd : decode cc pc = .ok (.istore_n k, 1)) (hi : (k : Nat) = i) (hn : i < nL) (hl' : ∀ y, (i, Value.int y) :: lv.filter (fun q => !(q.1 == i) && !(q.1 + 1 == i && q.2.category == 2)) = lv' y) (h : lt x B = some res)
    (kk : ∀ y : Int32, B y = some res → Gm p l e R s m args below meth c D cy ad A L nL cells slots Q (pc + 1) (lv' y) stk st) : Gm p l e R s m args below meth c D cy ad A L nL cells slots Q pc lv (.int x :: stk) st := fun H locs ls hP hS hl => lv_istore_n C.1 C.2.1 hd hi hl hn (hl' x) (fun ls2 h2 => kk x h H locs ls2 hP hS h2)
theorem g_istore (C : Cx p s m args c cc own nL D cy ad A L) {i : Nat} {x : Int32} {lv' : Int32 → List (Nat × Value)} {B : Int32 → Option ρ} (hd : decode cc pc = .ok (.istore i, 2)) (hn : i < nL) (hl' : ∀ y, (i, Value.int y) :: lv.filter (fun q => !(q.1 == i) && !(q.1 + 1 == i && q.2.category == 2)) = lv' y) (h : lt x B = some res)
    (kk : ∀ y : Int32, B y = some res → Gm p l e R s m args below meth c D cy ad A L nL cells slots Q (pc + 2) (lv' y) stk st) : Gm p l e R s m args below meth c D cy ad A L nL cells slots Q pc lv (.int x :: stk) st := fun H locs ls hP hS hl => lv_istore C.1 C.2.1 hd hl hn (hl' x) (fun ls2 h2 => kk x h H locs ls2 hP hS h2)
theorem g_iinc (C : Cx p s m args c cc own nL D cy ad A L) {i : Nat} {n : Int} {x v : Int32} {lv' : Int32 → List (Nat × Value)} {B : Int32 → Option ρ} (hd : decode cc pc = .ok (.iinc i n, 3)) (q : Nat) (hq : lv[q]? = some (i, .int x)) (hv : x + Int32.ofInt n = v) (hn : i < nL) (hl' : ∀ y, (i, Value.int y) :: lv.filter (fun q => !(q.1 == i) && !(q.1 + 1 == i && q.2.category == 2)) = lv' y) (h : lt v B = some res)
    (kk : ∀ y : Int32, B y = some res → Gm p l e R s m args below meth c D cy ad A L nL cells slots Q (pc + 3) (lv' y) stk st) : Gm p l e R s m args below meth c D cy ad A L nL cells slots Q pc lv stk st := fun H locs ls hP hS hl => lv_iinc C.1 C.2.1 hd hl hq hv hn (hl' v) (fun ls2 h2 => kk v h H locs ls2 hP hS h2)
theorem g_astore_n (C : Cx p s m args c cc own nL D cy ad A L) {k : Fin 4} {i : Nat} {x : Nat} {lv' : List (Nat × Value)} (hd : decode cc pc = .ok (.astore_n k, 1)) (hi : (k : Nat) = i) (hn : i < nL) (hl' : (i, Value.ref x) :: lv.filter (fun q => !(q.1 == i) && !(q.1 + 1 == i && q.2.category == 2)) = lv')
    (kk : Gm p l e R s m args below meth c D cy ad A L nL cells slots Q (pc + 1) lv' stk st) : Gm p l e R s m args below meth c D cy ad A L nL cells slots Q pc lv (.ref x :: stk) st := fun H locs ls hP hS hl => lv_astore_n C.1 C.2.1 hd hi hl hn hl' (fun ls2 h2 => kk H locs ls2 hP hS h2)
theorem g_astore (C : Cx p s m args c cc own nL D cy ad A L) {i : Nat} {x : Nat} {lv' : List (Nat × Value)} (hd : decode cc pc = .ok (.astore i, 2)) (hn : i < nL) (hl' : (i, Value.ref x) :: lv.filter (fun q => !(q.1 == i) && !(q.1 + 1 == i && q.2.category == 2)) = lv')
    (kk : Gm p l e R s m args below meth c D cy ad A L nL cells slots Q (pc + 2) lv' stk st) : Gm p l e R s m args below meth c D cy ad A L nL cells slots Q pc lv (.ref x :: stk) st := fun H locs ls hP hS hl => lv_astore C.1 C.2.1 hd hl hn hl' (fun ls2 h2 => kk H locs ls2 hP hS h2)
theorem g_iadd (C : Cx p s m args c cc own nL D cy ad A L) {x y : Int32} (hd : decode cc pc = .ok (.iadd, 1))
    (kk : Gm p l e R s m args below meth c D cy ad A L nL cells slots Q (pc + 1) lv (.int (x + y) :: stk) st) : Gm p l e R s m args below meth c D cy ad A L nL cells slots Q pc lv (.int y :: .int x :: stk) st := fun H locs ls hP hS hl => lv_iadd C.1 C.2.1 hd (kk H locs ls hP hS hl)
theorem g_isub (C : Cx p s m args c cc own nL D cy ad A L) {x y : Int32} (hd : decode cc pc = .ok (.isub, 1))
    (kk : Gm p l e R s m args below meth c D cy ad A L nL cells slots Q (pc + 1) lv (.int (x - y) :: stk) st) : Gm p l e R s m args below meth c D cy ad A L nL cells slots Q pc lv (.int y :: .int x :: stk) st := fun H locs ls hP hS hl => lv_isub C.1 C.2.1 hd (kk H locs ls hP hS hl)
theorem g_imul (C : Cx p s m args c cc own nL D cy ad A L) {x y : Int32} (hd : decode cc pc = .ok (.imul, 1))
    (kk : Gm p l e R s m args below meth c D cy ad A L nL cells slots Q (pc + 1) lv (.int (x * y) :: stk) st) : Gm p l e R s m args below meth c D cy ad A L nL cells slots Q pc lv (.int y :: .int x :: stk) st := fun H locs ls hP hS hl => lv_imul C.1 C.2.1 hd (kk H locs ls hP hS hl)
theorem g_iand (C : Cx p s m args c cc own nL D cy ad A L) {x y : Int32} (hd : decode cc pc = .ok (.iand, 1))
    (kk : Gm p l e R s m args below meth c D cy ad A L nL cells slots Q (pc + 1) lv (.int (x &&& y) :: stk) st) : Gm p l e R s m args below meth c D cy ad A L nL cells slots Q pc lv (.int y :: .int x :: stk) st := fun H locs ls hP hS hl => lv_iand C.1 C.2.1 hd (kk H locs ls hP hS hl)
theorem g_ior (C : Cx p s m args c cc own nL D cy ad A L) {x y : Int32} (hd : decode cc pc = .ok (.ior, 1))
    (kk : Gm p l e R s m args below meth c D cy ad A L nL cells slots Q (pc + 1) lv (.int (x ||| y) :: stk) st) : Gm p l e R s m args below meth c D cy ad A L nL cells slots Q pc lv (.int y :: .int x :: stk) st := fun H locs ls hP hS hl => lv_ior C.1 C.2.1 hd (kk H locs ls hP hS hl)
theorem g_ixor (C : Cx p s m args c cc own nL D cy ad A L) {x y : Int32} (hd : decode cc pc = .ok (.ixor, 1))
    (kk : Gm p l e R s m args below meth c D cy ad A L nL cells slots Q (pc + 1) lv (.int (x ^^^ y) :: stk) st) : Gm p l e R s m args below meth c D cy ad A L nL cells slots Q pc lv (.int y :: .int x :: stk) st := fun H locs ls hP hS hl => lv_ixor C.1 C.2.1 hd (kk H locs ls hP hS hl)
theorem g_ishl (C : Cx p s m args c cc own nL D cy ad A L) {x y : Int32} (hd : decode cc pc = .ok (.ishl, 1))
    (kk : Gm p l e R s m args below meth c D cy ad A L nL cells slots Q (pc + 1) lv (.int (x <<< (y &&& 31)) :: stk) st) : Gm p l e R s m args below meth c D cy ad A L nL cells slots Q pc lv (.int y :: .int x :: stk) st := fun H locs ls hP hS hl => lv_ishl C.1 C.2.1 hd (kk H locs ls hP hS hl)
theorem g_ishr (C : Cx p s m args c cc own nL D cy ad A L) {x y : Int32} (hd : decode cc pc = .ok (.ishr, 1))
    (kk : Gm p l e R s m args below meth c D cy ad A L nL cells slots Q (pc + 1) lv (.int (x >>> (y &&& 31)) :: stk) st) : Gm p l e R s m args below meth c D cy ad A L nL cells slots Q pc lv (.int y :: .int x :: stk) st := fun H locs ls hP hS hl => lv_ishr C.1 C.2.1 hd (kk H locs ls hP hS hl)
theorem g_iushr (C : Cx p s m args c cc own nL D cy ad A L) {x y : Int32} (hd : decode cc pc = .ok (.iushr, 1))
    (kk : Gm p l e R s m args below meth c D cy ad A L nL cells slots Q (pc + 1) lv (.int ((x.toUInt32 >>> (y.toUInt32 &&& Int32.toUInt32 31)).toInt32) :: stk) st) : Gm p l e R s m args below meth c D cy ad A L nL cells slots Q pc lv (.int y :: .int x :: stk) st := fun H locs ls hP hS hl => lv_iushr C.1 C.2.1 hd rfl (kk H locs ls hP hS hl)
theorem g_idiv (C : Cx p s m args c cc own nL D cy ad A L) {x y : Int32} {X : Option ρ} (hd : decode cc pc = .ok (.idiv, 1)) (h : ck (decide (y ≠ 0)) X = some res)
    (kk : X = some res → Gm p l e R s m args below meth c D cy ad A L nL cells slots Q (pc + 1) lv (.int (x / y) :: stk) st) : Gm p l e R s m args below meth c D cy ad A L nL cells slots Q pc lv (.int y :: .int x :: stk) st := fun H locs ls hP hS hl => lv_idiv C.1 C.2.1 hd (of_decide_eq_true (ck_some h).1) (kk (ck_some h).2 H locs ls hP hS hl)
theorem g_irem (C : Cx p s m args c cc own nL D cy ad A L) {x y : Int32} {X : Option ρ} (hd : decode cc pc = .ok (.irem, 1)) (h : ck (decide (y ≠ 0)) X = some res)
    (kk : X = some res → Gm p l e R s m args below meth c D cy ad A L nL cells slots Q (pc + 1) lv (.int (x - x / y * y) :: stk) st) : Gm p l e R s m args below meth c D cy ad A L nL cells slots Q pc lv (.int y :: .int x :: stk) st := fun H locs ls hP hS hl => lv_irem C.1 C.2.1 hd (of_decide_eq_true (ck_some h).1) (kk (ck_some h).2 H locs ls hP hS hl)
theorem g_ineg (C : Cx p s m args c cc own nL D cy ad A L) {x : Int32} (hd : decode cc pc = .ok (.ineg, 1))
    (kk : Gm p l e R s m args below meth c D cy ad A L nL cells slots Q (pc + 1) lv (.int (-x) :: stk) st) : Gm p l e R s m args below meth c D cy ad A L nL cells slots Q pc lv (.int x :: stk) st := fun H locs ls hP hS hl => lv_ineg C.1 C.2.1 hd (kk H locs ls hP hS hl)
theorem g_i2l (C : Cx p s m args c cc own nL D cy ad A L) {x : Int32} (hd : decode cc pc = .ok (.i2l, 1))
    (kk : Gm p l e R s m args below meth c D cy ad A L nL cells slots Q (pc + 1) lv (.long x.toInt64 :: stk) st) : Gm p l e R s m args below meth c D cy ad A L nL cells slots Q pc lv (.int x :: stk) st := fun H locs ls hP hS hl => lv_i2l C.1 C.2.1 hd rfl (kk H locs ls hP hS hl)
theorem g_dup (C : Cx p s m args c cc own nL D cy ad A L) {v : Value} (hd : decode cc pc = .ok (.dup, 1)) (hv : v.category = 1)
    (kk : Gm p l e R s m args below meth c D cy ad A L nL cells slots Q (pc + 1) lv (v :: v :: stk) st) : Gm p l e R s m args below meth c D cy ad A L nL cells slots Q pc lv (v :: stk) st := fun H locs ls hP hS hl => lv_dup C.1 C.2.1 hd hv (kk H locs ls hP hS hl)
theorem g_pop (C : Cx p s m args c cc own nL D cy ad A L) {v : Value} (hd : decode cc pc = .ok (.pop, 1)) (hv : v.category = 1)
    (kk : Gm p l e R s m args below meth c D cy ad A L nL cells slots Q (pc + 1) lv stk st) : Gm p l e R s m args below meth c D cy ad A L nL cells slots Q pc lv (v :: stk) st := fun H locs ls hP hS hl => lv_pop C.1 C.2.1 hd hv (kk H locs ls hP hS hl)
theorem g_dup_x1 (C : Cx p s m args c cc own nL D cy ad A L) {v w : Value} (hd : decode cc pc = .ok (.dup_x1, 1)) (hv : v.category = 1) (hw : w.category = 1)
    (kk : Gm p l e R s m args below meth c D cy ad A L nL cells slots Q (pc + 1) lv (v :: w :: v :: stk) st) : Gm p l e R s m args below meth c D cy ad A L nL cells slots Q pc lv (v :: w :: stk) st := fun H locs ls hP hS hl => lv_dup_x1 C.1 C.2.1 hd hv hw (kk H locs ls hP hS hl)
theorem g_dup2 (C : Cx p s m args c cc own nL D cy ad A L) {v w : Value} (hd : decode cc pc = .ok (.dup2, 1)) (hv : v.category = 1) (hw : w.category = 1)
    (kk : Gm p l e R s m args below meth c D cy ad A L nL cells slots Q (pc + 1) lv (v :: w :: v :: w :: stk) st) : Gm p l e R s m args below meth c D cy ad A L nL cells slots Q pc lv (v :: w :: stk) st := fun H locs ls hP hS hl => lv_dup2_11 C.1 C.2.1 hd hv hw (kk H locs ls hP hS hl)
theorem g_icmp_eq (C : Cx p s m args c cc own nL D cy ad A L) {x y : Int32} {off : Int} {tgt : Nat} {X Y : Option ρ} (hd : decode cc pc = .ok (.if_icmp .eq off, 3)) (ht : (pc : Int) + off = (tgt : Int)) (h : (if x = y then X else Y) = some res)
    (kt : x = y → X = some res → Gm p l e R s m args below meth c D cy ad A L nL cells slots Q tgt lv stk st) (kf : ¬ x = y → Y = some res → Gm p l e R s m args below meth c D cy ad A L nL cells slots Q (pc + 3) lv stk st) : Gm p l e R s m args below meth c D cy ad A L nL cells slots Q pc lv (.int y :: .int x :: stk) st := fun H locs ls hP hS hl => lv_icmp_eq C.1 C.2.1 hd ht (fun a => kt a ((if_pos a).symm.trans h) H locs ls hP hS hl) (fun a => kf a ((if_neg a).symm.trans h) H locs ls hP hS hl)
theorem g_icmp_ne (C : Cx p s m args c cc own nL D cy ad A L) {x y : Int32} {off : Int} {tgt : Nat} {X Y : Option ρ} (hd : decode cc pc = .ok (.if_icmp .ne off, 3)) (ht : (pc : Int) + off = (tgt : Int)) (h : (if x = y then Y else X) = some res)
    (kt : ¬ x = y → X = some res → Gm p l e R s m args below meth c D cy ad A L nL cells slots Q tgt lv stk st) (kf : x = y → Y = some res → Gm p l e R s m args below meth c D cy ad A L nL cells slots Q (pc + 3) lv stk st) : Gm p l e R s m args below meth c D cy ad A L nL cells slots Q pc lv (.int y :: .int x :: stk) st := fun H locs ls hP hS hl => lv_icmp_ne C.1 C.2.1 hd ht (fun a => kt a ((if_neg a).symm.trans h) H locs ls hP hS hl) (fun a => kf a ((if_pos a).symm.trans h) H locs ls hP hS hl)
theorem g_icmp_lt (C : Cx p s m args c cc own nL D cy ad A L) {x y : Int32} {off : Int} {tgt : Nat} {X Y : Option ρ} (hd : decode cc pc = .ok (.if_icmp .lt off, 3)) (ht : (pc : Int) + off = (tgt : Int)) (h : (if x < y then X else Y) = some res)
    (kt : x < y → X = some res → Gm p l e R s m args below meth c D cy ad A L nL cells slots Q tgt lv stk st) (kf : ¬ x < y → Y = some res → Gm p l e R s m args below meth c D cy ad A L nL cells slots Q (pc + 3) lv stk st) : Gm p l e R s m args below meth c D cy ad A L nL cells slots Q pc lv (.int y :: .int x :: stk) st := fun H locs ls hP hS hl => lv_icmp_lt C.1 C.2.1 hd ht (fun a => kt a ((if_pos a).symm.trans h) H locs ls hP hS hl) (fun a => kf a ((if_neg a).symm.trans h) H locs ls hP hS hl)
theorem g_icmp_ge (C : Cx p s m args c cc own nL D cy ad A L) {x y : Int32} {off : Int} {tgt : Nat} {X Y : Option ρ} (hd : decode cc pc = .ok (.if_icmp .ge off, 3)) (ht : (pc : Int) + off = (tgt : Int)) (h : (if y ≤ x then X else Y) = some res)
    (kt : y ≤ x → X = some res → Gm p l e R s m args below meth c D cy ad A L nL cells slots Q tgt lv stk st) (kf : ¬ y ≤ x → Y = some res → Gm p l e R s m args below meth c D cy ad A L nL cells slots Q (pc + 3) lv stk st) : Gm p l e R s m args below meth c D cy ad A L nL cells slots Q pc lv (.int y :: .int x :: stk) st := fun H locs ls hP hS hl => lv_icmp_ge C.1 C.2.1 hd ht (fun a => kt a ((if_pos a).symm.trans h) H locs ls hP hS hl) (fun a => kf a ((if_neg a).symm.trans h) H locs ls hP hS hl)
theorem g_icmp_gt (C : Cx p s m args c cc own nL D cy ad A L) {x y : Int32} {off : Int} {tgt : Nat} {X Y : Option ρ} (hd : decode cc pc = .ok (.if_icmp .gt off, 3)) (ht : (pc : Int) + off = (tgt : Int)) (h : (if y < x then X else Y) = some res)
    (kt : y < x → X = some res → Gm p l e R s m args below meth c D cy ad A L nL cells slots Q tgt lv stk st) (kf : ¬ y < x → Y = some res → Gm p l e R s m args below meth c D cy ad A L nL cells slots Q (pc + 3) lv stk st) : Gm p l e R s m args below meth c D cy ad A L nL cells slots Q pc lv (.int y :: .int x :: stk) st := fun H locs ls hP hS hl => lv_icmp_gt C.1 C.2.1 hd ht (fun a => kt a ((if_pos a).symm.trans h) H locs ls hP hS hl) (fun a => kf a ((if_neg a).symm.trans h) H locs ls hP hS hl)
theorem g_icmp_le (C : Cx p s m args c cc own nL D cy ad A L) {x y : Int32} {off : Int} {tgt : Nat} {X Y : Option ρ} (hd : decode cc pc = .ok (.if_icmp .le off, 3)) (ht : (pc : Int) + off = (tgt : Int)) (h : (if x ≤ y then X else Y) = some res)
    (kt : x ≤ y → X = some res → Gm p l e R s m args below meth c D cy ad A L nL cells slots Q tgt lv stk st) (kf : ¬ x ≤ y → Y = some res → Gm p l e R s m args below meth c D cy ad A L nL cells slots Q (pc + 3) lv stk st) : Gm p l e R s m args below meth c D cy ad A L nL cells slots Q pc lv (.int y :: .int x :: stk) st := fun H locs ls hP hS hl => lv_icmp_le C.1 C.2.1 hd ht (fun a => kt a ((if_pos a).symm.trans h) H locs ls hP hS hl) (fun a => kf a ((if_neg a).symm.trans h) H locs ls hP hS hl)
theorem g_if_eq (C : Cx p s m args c cc own nL D cy ad A L) {x : Int32} {off : Int} {tgt : Nat} {X Y : Option ρ} (hd : decode cc pc = .ok (.ifCond .eq off, 3)) (ht : (pc : Int) + off = (tgt : Int)) (h : (if x = 0 then X else Y) = some res)
    (kt : x = 0 → X = some res → Gm p l e R s m args below meth c D cy ad A L nL cells slots Q tgt lv stk st) (kf : ¬ x = 0 → Y = some res → Gm p l e R s m args below meth c D cy ad A L nL cells slots Q (pc + 3) lv stk st) : Gm p l e R s m args below meth c D cy ad A L nL cells slots Q pc lv (.int x :: stk) st := fun H locs ls hP hS hl => lv_if_eq C.1 C.2.1 hd ht (fun a => kt a ((if_pos a).symm.trans h) H locs ls hP hS hl) (fun a => kf a ((if_neg a).symm.trans h) H locs ls hP hS hl)
theorem g_if_ne (C : Cx p s m args c cc own nL D cy ad A L) {x : Int32} {off : Int} {tgt : Nat} {X Y : Option ρ} (hd : decode cc pc = .ok (.ifCond .ne off, 3)) (ht : (pc : Int) + off = (tgt : Int)) (h : (if x = 0 then Y else X) = some res)
    (kt : ¬ x = 0 → X = some res → Gm p l e R s m args below meth c D cy ad A L nL cells slots Q tgt lv stk st) (kf : x = 0 → Y = some res → Gm p l e R s m args below meth c D cy ad A L nL cells slots Q (pc + 3) lv stk st) : Gm p l e R s m args below meth c D cy ad A L nL cells slots Q pc lv (.int x :: stk) st := fun H locs ls hP hS hl => lv_if_ne C.1 C.2.1 hd ht (fun a => kt a ((if_neg a).symm.trans h) H locs ls hP hS hl) (fun a => kf a ((if_pos a).symm.trans h) H locs ls hP hS hl)
theorem g_if_lt (C : Cx p s m args c cc own nL D cy ad A L) {x : Int32} {off : Int} {tgt : Nat} {X Y : Option ρ} (hd : decode cc pc = .ok (.ifCond .lt off, 3)) (ht : (pc : Int) + off = (tgt : Int)) (h : (if x < 0 then X else Y) = some res)
    (kt : x < 0 → X = some res → Gm p l e R s m args below meth c D cy ad A L nL cells slots Q tgt lv stk st) (kf : ¬ x < 0 → Y = some res → Gm p l e R s m args below meth c D cy ad A L nL cells slots Q (pc + 3) lv stk st) : Gm p l e R s m args below meth c D cy ad A L nL cells slots Q pc lv (.int x :: stk) st := fun H locs ls hP hS hl => lv_if_lt C.1 C.2.1 hd ht (fun a => kt a ((if_pos a).symm.trans h) H locs ls hP hS hl) (fun a => kf a ((if_neg a).symm.trans h) H locs ls hP hS hl)
theorem g_if_ge (C : Cx p s m args c cc own nL D cy ad A L) {x : Int32} {off : Int} {tgt : Nat} {X Y : Option ρ} (hd : decode cc pc = .ok (.ifCond .ge off, 3)) (ht : (pc : Int) + off = (tgt : Int)) (h : (if 0 ≤ x then X else Y) = some res)
    (kt : 0 ≤ x → X = some res → Gm p l e R s m args below meth c D cy ad A L nL cells slots Q tgt lv stk st) (kf : ¬ 0 ≤ x → Y = some res → Gm p l e R s m args below meth c D cy ad A L nL cells slots Q (pc + 3) lv stk st) : Gm p l e R s m args below meth c D cy ad A L nL cells slots Q pc lv (.int x :: stk) st := fun H locs ls hP hS hl => lv_if_ge C.1 C.2.1 hd ht (fun a => kt a ((if_pos a).symm.trans h) H locs ls hP hS hl) (fun a => kf a ((if_neg a).symm.trans h) H locs ls hP hS hl)
theorem g_if_gt (C : Cx p s m args c cc own nL D cy ad A L) {x : Int32} {off : Int} {tgt : Nat} {X Y : Option ρ} (hd : decode cc pc = .ok (.ifCond .gt off, 3)) (ht : (pc : Int) + off = (tgt : Int)) (h : (if 0 < x then X else Y) = some res)
    (kt : 0 < x → X = some res → Gm p l e R s m args below meth c D cy ad A L nL cells slots Q tgt lv stk st) (kf : ¬ 0 < x → Y = some res → Gm p l e R s m args below meth c D cy ad A L nL cells slots Q (pc + 3) lv stk st) : Gm p l e R s m args below meth c D cy ad A L nL cells slots Q pc lv (.int x :: stk) st := fun H locs ls hP hS hl => lv_if_gt C.1 C.2.1 hd ht (fun a => kt a ((if_pos a).symm.trans h) H locs ls hP hS hl) (fun a => kf a ((if_neg a).symm.trans h) H locs ls hP hS hl)
theorem g_if_le (C : Cx p s m args c cc own nL D cy ad A L) {x : Int32} {off : Int} {tgt : Nat} {X Y : Option ρ} (hd : decode cc pc = .ok (.ifCond .le off, 3)) (ht : (pc : Int) + off = (tgt : Int)) (h : (if x ≤ 0 then X else Y) = some res)
    (kt : x ≤ 0 → X = some res → Gm p l e R s m args below meth c D cy ad A L nL cells slots Q tgt lv stk st) (kf : ¬ x ≤ 0 → Y = some res → Gm p l e R s m args below meth c D cy ad A L nL cells slots Q (pc + 3) lv stk st) : Gm p l e R s m args below meth c D cy ad A L nL cells slots Q pc lv (.int x :: stk) st := fun H locs ls hP hS hl => lv_if_le C.1 C.2.1 hd ht (fun a => kt a ((if_pos a).symm.trans h) H locs ls hP hS hl) (fun a => kf a ((if_neg a).symm.trans h) H locs ls hP hS hl)
theorem g_goto (C : Cx p s m args c cc own nL D cy ad A L) {off : Int} {tgt : Nat} (hd : decode cc pc = .ok (.goto off, 3)) (ht : (pc : Int) + off = (tgt : Int))
    (kk : Gm p l e R s m args below meth c D cy ad A L nL cells slots Q tgt lv stk st) : Gm p l e R s m args below meth c D cy ad A L nL cells slots Q pc lv stk st := fun H locs ls hP hS hl => lv_goto C.1 C.2.1 hd ht (kk H locs ls hP hS hl)
theorem g_sub (ks : List Nat) {lv2 : List (Nat × Value)} (hk : lv_pick lv ks = lv2) (kk : Gm p l e R s m args below meth c D cy ad A L nL cells slots Q pc lv2 stk st) : Gm p l e R s m args below meth c D cy ad A L nL cells slots Q pc lv stk st := fun H locs ls hP hS hl => (kk H locs ls hP hS (lv_sub hl ks hk))
theorem g_st {st2 : St} (hst : st = st2) (kk : Gm p l e R s m args below meth c D cy ad A L nL cells slots Q pc lv stk st2) : Gm p l e R s m args below meth c D cy ad A L nL cells slots Q pc lv stk st := hst ▸ kk
theorem g_getI (C : Cx p s m args c cc own nL D cy ad A L) {index k ci : Nat} {Cn : String} {T : u_T} {N : Nat} (ok : clsOk ci (Cn, T, N)) (hd : decode cc pc = .ok (.getfield index, 3)) (hk : k ∈ L) (hkd : kd k = ci) (j : Nat) (hj : j < N) (hlink : Cond.fieldLink own index (T j).1 (T j).2.1 (T j).2.2.1 ∈ gtb) (hrf : rf ci j = none)
    (kk : Gm p l e R s m args below meth c D cy ad A L nL cells slots Q (pc + 3) lv (.int (st k j) :: stk) st) : Gm p l e R s m args below meth c D cy ad A L nL cells slots Q pc lv (.ref (ad k) :: stk) st := by
  intro H locs ls hP hS hl
  obtain ⟨hc, h9, hn, hin, -⟩ := ok
  obtain ⟨q, hq⟩ := List.getElem?_of_mem hk
  exact va_get C.1 C.2.1 C.2.2.2.2.1 hin C.2.2.2.1 C.2.2.2.2.2.1 hP q ((wd_get hq).trans (by rw [ce_obj hkd h9])) hc j hj (C.2.2.2.2.1 _ hlink) (fun _ h => h) ((fs_at hkd hn hj).trans (by rw [fv_int hkd hrf])) hd (kk H locs ls hP hS hl)
theorem g_getR (C : Cx p s m args c cc own nL D cy ad A L) {index k ci : Nat} {Cn : String} {T : u_T} {N : Nat} (ok : clsOk ci (Cn, T, N)) (hd : decode cc pc = .ok (.getfield index, 3)) (hk : k ∈ L) (hkd : kd k = ci) (j : Nat) (hj : j < N) (hlink : Cond.fieldLink own index (T j).1 (T j).2.1 (T j).2.2.1 ∈ gtb) {b : Bool} {d k2 : Nat} (hrf : rf ci j = some (b, d)) (h2 : (if b then k + d else d) = k2)
    (kk : Gm p l e R s m args below meth c D cy ad A L nL cells slots Q (pc + 3) lv (.ref (ad k2) :: stk) st) : Gm p l e R s m args below meth c D cy ad A L nL cells slots Q pc lv (.ref (ad k) :: stk) st := by
  intro H locs ls hP hS hl
  obtain ⟨hc, h9, hn, hin, -⟩ := ok
  obtain ⟨q, hq⟩ := List.getElem?_of_mem hk
  exact va_get C.1 C.2.1 C.2.2.2.2.1 hin C.2.2.2.1 C.2.2.2.2.2.1 hP q ((wd_get hq).trans (by rw [ce_obj hkd h9])) hc j hj (C.2.2.2.2.1 _ hlink) (fun _ h => h) ((fs_at hkd hn hj).trans (by rw [fv_ref hkd hrf, h2])) hd (kk H locs ls hP hS hl)
theorem g_put (C : Cx p s m args c cc own nL D cy ad A L) {index k ci : Nat} {Cn : String} {T : u_T} {N : Nat} (ok : clsOk ci (Cn, T, N)) (hd : decode cc pc = .ok (.putfield index, 3)) (hk : k ∈ L) (hkd : kd k = ci) (j : Nat) (hj : j < N) (hlink : Cond.fieldLink own index (T j).1 (T j).2.1 (T j).2.2.1 ∈ gtb) (hfin : (T j).2.2.2 = false) {ty : FieldType} {v : Int32} (hty : parseFieldDescriptor (T j).2.2.1 = some ty) (hnr : narrow ty (.int v) = .int v) (hfit : fits ty (.int v) = true) (hrf : rf ci j = none) {B : St → Option ρ} (h : lt (up st k j v) B = some res)
    (kk : ∀ st1 : St, B st1 = some res → Gm p l e R s m args below meth c D cy ad A L nL cells slots Q (pc + 3) lv stk st1) : Gm p l e R s m args below meth c D cy ad A L nL cells slots Q pc lv (.int v :: .ref (ad k) :: stk) st := by
  intro H locs ls hP hS hl
  obtain ⟨hc, h9, hn, hin, ty0, hty0, hnm⟩ := ok
  obtain ⟨q, hq⟩ := List.getElem?_of_mem hk
  have hD := wd_D (st' := st) C.2.2.2.2.2.2
  refine va_put C.1 C.2.1 C.2.2.2.2.1 hin ty0 hty0 hnm C.2.2.2.1 C.2.2.2.2.2.1 hP hD hS q ((wd_get hq).trans (by rw [ce_obj hkd h9])) hc j hj (C.2.2.2.2.1 _ hlink) (fun _ h => h) hfin hty hnr hfit (List.getElem?_eq_some_iff.mp (fs_at (ad := ad) (st := st) hkd hn hj)).1 hd (fun H1 locs1 hP1 hD1 hS1 => ?_)
  rw [wd_set hD hq (st' := up st k j v) (by rw [ce_obj hkd h9, fs_set hkd hn hj hrf]) (fun i hi => ce_ne (up_ne hi))] at hP1
  exact kk _ h H1 locs1 ls hP1 hS1 hl
theorem g_iald (C : Cx p s m args c cc own nL D cy ad A L) {k n : Nat} {i : Int32} {X : Option ρ} (hd : decode cc pc = .ok (.iaload, 1)) (hk : k ∈ L) (hkd : kd k = 9) (hn : ln k = n) (h : ck (inb i n) X = some res)
    (kk : X = some res → Gm p l e R s m args below meth c D cy ad A L nL cells slots Q (pc + 1) lv (.int (st k i.toNatClampNeg) :: stk) st) : Gm p l e R s m args below meth c D cy ad A L nL cells slots Q pc lv (.int i :: .ref (ad k) :: stk) st := by
  intro H locs ls hP hS hl
  obtain ⟨q, hq⟩ := List.getElem?_of_mem hk
  exact va_iald C.1 C.2.1 C.2.2.2.2.2.1 hP q 0 ((wd_get hq).trans (by rw [ce_int hkd, hn])) rfl (inb_in (ck_some h).1) hd (kk (ck_some h).2 H locs ls hP hS hl)
theorem g_zald (C : Cx p s m args c cc own nL D cy ad A L) {k n : Nat} {i : Int32} {X : Option ρ} (hd : decode cc pc = .ok (.baload, 1)) (hk : k ∈ L) (hkd : kd k = 10) (hn : ln k = n) (h : ck (inb i n) X = some res)
    (kk : X = some res → Gm p l e R s m args below meth c D cy ad A L nL cells slots Q (pc + 1) lv (.int (st k i.toNatClampNeg) :: stk) st) : Gm p l e R s m args below meth c D cy ad A L nL cells slots Q pc lv (.int i :: .ref (ad k) :: stk) st := by
  intro H locs ls hP hS hl
  obtain ⟨q, hq⟩ := List.getElem?_of_mem hk
  exact va_zald C.1 C.2.1 C.2.2.2.2.2.1 hP q 1 ((wd_get hq).trans (by rw [ce_bool hkd, hn])) rfl (inb_in (ck_some h).1) hd (kk (ck_some h).2 H locs ls hP hS hl)
theorem g_iast (C : Cx p s m args c cc own nL D cy ad A L) {k n : Nat} {i x : Int32} {B : St → Option ρ} (hd : decode cc pc = .ok (.iastore, 1)) (hk : k ∈ L) (hkd : kd k = 9) (hn : ln k = n) (h : ck (inb i n) (lt (up st k i.toNatClampNeg x) B) = some res)
    (kk : ∀ st1 : St, B st1 = some res → Gm p l e R s m args below meth c D cy ad A L nL cells slots Q (pc + 1) lv stk st1) : Gm p l e R s m args below meth c D cy ad A L nL cells slots Q pc lv (.int x :: .int i :: .ref (ad k) :: stk) st := by
  intro H locs ls hP hS hl
  obtain ⟨q, hq⟩ := List.getElem?_of_mem hk
  have hD := wd_D (st' := st) C.2.2.2.2.2.2
  refine va_iast C.1 C.2.1 C.2.2.2.2.2.1 hP hD hS q 0 ((wd_get hq).trans (by rw [ce_int hkd, hn])) rfl (inb_in (ck_some h).1) hd (fun H1 locs1 hP1 hD1 hS1 => ?_)
  rw [wd_set hD hq (st' := up st k i.toNatClampNeg x) (by rw [ce_int hkd, up_at, hn]) (fun i hi => ce_ne (up_ne hi))] at hP1
  exact kk _ (ck_some h).2 H1 locs1 ls hP1 hS1 hl
theorem g_zast (C : Cx p s m args c cc own nL D cy ad A L) {k n : Nat} {i x : Int32} {B : St → Option ρ} (hd : decode cc pc = .ok (.bastore, 1)) (hk : k ∈ L) (hkd : kd k = 10) (hn : ln k = n) (h : ck (inb i n) (lt (up st k i.toNatClampNeg (vp_nar .boolean x)) B) = some res)
    (kk : ∀ st1 : St, B st1 = some res → Gm p l e R s m args below meth c D cy ad A L nL cells slots Q (pc + 1) lv stk st1) : Gm p l e R s m args below meth c D cy ad A L nL cells slots Q pc lv (.int x :: .int i :: .ref (ad k) :: stk) st := by
  intro H locs ls hP hS hl
  obtain ⟨q, hq⟩ := List.getElem?_of_mem hk
  have hD := wd_D (st' := st) C.2.2.2.2.2.2
  refine va_zast C.1 C.2.1 C.2.2.2.2.2.1 hP hD hS q 1 ((wd_get hq).trans (by rw [ce_bool hkd, hn])) rfl (inb_in (ck_some h).1) hd (fun H1 locs1 hP1 hD1 hS1 => ?_)
  rw [wd_set hD hq (st' := up st k i.toNatClampNeg (vp_nar .boolean x)) (by rw [ce_bool hkd, up_at, hn]) (fun i hi => ce_ne (up_ne hi))] at hP1
  exact kk _ (ck_some h).2 H1 locs1 ls hP1 hS1 hl
theorem g_aaldP (C : Cx p s m args c cc own nL D cy ad A L) {k n b w : Nat} {i : Int32} {X : Option ρ} (hd : decode cc pc = .ok (.aaload, 1)) (hk : k ∈ L) (hkd : kd k = 11) (hn : ln k = n) (hb : raB k = (b, w)) (h : ck (inb i n) X = some res)
    (kk : X = some res → Gm p l e R s m args below meth c D cy ad A L nL cells slots Q (pc + 1) lv (.ref (ad (b + w * i.toNatClampNeg)) :: stk) st) : Gm p l e R s m args below meth c D cy ad A L nL cells slots Q pc lv (.int i :: .ref (ad k) :: stk) st := by
  intro H locs ls hP hS hl
  obtain ⟨q, hq⟩ := List.getElem?_of_mem hk
  have hin := inb_in (ck_some h).1
  have hlt : i.toNatClampNeg < n := Nat.not_le.mp fun q => hin (Or.inr q)
  have hcell := hP q _ ((wd_get hq).trans (by rw [ce_refs hkd (by decide), hn, hb]))
  exact W.aald (v := .ref (ad (b + w * i.toNatClampNeg))) (ty := .object "StepRegisters$Plan") C.1 C.2.1 hcell ((C.2.2.2.2.2.1.2 2 _ rfl).1 n (fun j => va_rf (some (ad (b + w * j))))) rfl (fun q => by cases q) (by show ¬ (i < 0 ∨ (arrV _ _ _).slots.size ≤ _); rw [arrV_size]; exact hin) (by show (arrV _ _ _).slots[_]? = _; rw [arrV_read _ _ hlt]; rfl) rfl rfl hd (kk (ck_some h).2 H locs ls hP hS hl)
theorem g_aaldS (C : Cx p s m args c cc own nL D cy ad A L) {k n b w : Nat} {i : Int32} {X : Option ρ} (hd : decode cc pc = .ok (.aaload, 1)) (hk : k ∈ L) (hkd : kd k = 12) (hn : ln k = n) (hb : raB k = (b, w)) (h : ck (inb i n) X = some res)
    (kk : X = some res → Gm p l e R s m args below meth c D cy ad A L nL cells slots Q (pc + 1) lv (.ref (ad (b + w * i.toNatClampNeg)) :: stk) st) : Gm p l e R s m args below meth c D cy ad A L nL cells slots Q pc lv (.int i :: .ref (ad k) :: stk) st := by
  intro H locs ls hP hS hl
  obtain ⟨q, hq⟩ := List.getElem?_of_mem hk
  have hin := inb_in (ck_some h).1
  have hlt : i.toNatClampNeg < n := Nat.not_le.mp fun q => hin (Or.inr q)
  have hcell := hP q _ ((wd_get hq).trans (by rw [ce_refs hkd (by decide), hn, hb]))
  exact W.aald (v := .ref (ad (b + w * i.toNatClampNeg))) (ty := .object "StepRegisters$State") C.1 C.2.1 hcell ((C.2.2.2.2.2.1.2 3 _ rfl).1 n (fun j => va_rf (some (ad (b + w * j))))) rfl (fun q => by cases q) (by show ¬ (i < 0 ∨ (arrV _ _ _).slots.size ≤ _); rw [arrV_size]; exact hin) (by show (arrV _ _ _).slots[_]? = _; rw [arrV_read _ _ hlt]; rfl) rfl rfl hd (kk (ck_some h).2 H locs ls hP hS hl)
theorem g_aaldI (C : Cx p s m args c cc own nL D cy ad A L) {k n b w : Nat} {i : Int32} {X : Option ρ} (hd : decode cc pc = .ok (.aaload, 1)) (hk : k ∈ L) (hkd : kd k = 13) (hn : ln k = n) (hb : raB k = (b, w)) (h : ck (inb i n) X = some res)
    (kk : X = some res → Gm p l e R s m args below meth c D cy ad A L nL cells slots Q (pc + 1) lv (.ref (ad (b + w * i.toNatClampNeg)) :: stk) st) : Gm p l e R s m args below meth c D cy ad A L nL cells slots Q pc lv (.int i :: .ref (ad k) :: stk) st := by
  intro H locs ls hP hS hl
  obtain ⟨q, hq⟩ := List.getElem?_of_mem hk
  have hin := inb_in (ck_some h).1
  have hlt : i.toNatClampNeg < n := Nat.not_le.mp fun q => hin (Or.inr q)
  have hcell := hP q _ ((wd_get hq).trans (by rw [ce_refs hkd (by decide), hn, hb]))
  exact W.aald (v := .ref (ad (b + w * i.toNatClampNeg))) (ty := .array .int) C.1 C.2.1 hcell ((C.2.2.2.2.2.1.2 4 _ rfl).1 n (fun j => va_rf (some (ad (b + w * j))))) rfl (fun q => by cases q) (by show ¬ (i < 0 ∨ (arrV _ _ _).slots.size ≤ _); rw [arrV_size]; exact hin) (by show (arrV _ _ _).slots[_]? = _; rw [arrV_read _ _ hlt]; rfl) rfl rfl hd (kk (ck_some h).2 H locs ls hP hS hl)
theorem g_alen (C : Cx p s m args c cc own nL D cy ad A L) {k n : Nat} (hd : decode cc pc = .ok (.arraylength, 1)) (hk : k ∈ L) (hkd : kd k = 9) (hn : ln k = n) {v : Int32} (hv : Int32.ofNat n = v)
    (kk : Gm p l e R s m args below meth c D cy ad A L nL cells slots Q (pc + 1) lv (.int v :: stk) st) : Gm p l e R s m args below meth c D cy ad A L nL cells slots Q pc lv (.ref (ad k) :: stk) st := by
  intro H locs ls hP hS hl
  obtain ⟨q, hq⟩ := List.getElem?_of_mem hk
  exact va_alen C.1 C.2.1 C.2.2.2.2.2.1 hP q 0 ((wd_get hq).trans (by rw [ce_int hkd, hn])) rfl hv hd (kk H locs ls hP hS hl)
theorem g_alenP (C : Cx p s m args c cc own nL D cy ad A L) {k n : Nat} (hd : decode cc pc = .ok (.arraylength, 1)) (hk : k ∈ L) (hkd : kd k = 11) (hn : ln k = n) {v : Int32} (hv : Int32.ofNat n = v)
    (kk : Gm p l e R s m args below meth c D cy ad A L nL cells slots Q (pc + 1) lv (.int v :: stk) st) : Gm p l e R s m args below meth c D cy ad A L nL cells slots Q pc lv (.ref (ad k) :: stk) st := by
  intro H locs ls hP hS hl
  obtain ⟨q, hq⟩ := List.getElem?_of_mem hk
  exact va_alen C.1 C.2.1 C.2.2.2.2.2.1 hP q 2 ((wd_get hq).trans (by rw [ce_refs hkd (by decide), hn])) rfl hv hd (kk H locs ls hP hS hl)
theorem g_min (C : Cx p s m args c cc own nL D cy ad A L) {index : Nat} {x y : Int32} (hlink : Cond.methodLink own index Lib.Math.min.name ∈ gtb) (hstat : Cond.static Lib.Math.min.name ∈ gtb) (hini : Cond.initialized "java/lang/Math" ∈ gtb) (hcode : Cond.code Lib.Math.min.name Lib.Math.min.code 2 (some .int) ∈ gtb) (hR : 1 ≤ R.frames ∧ (stk.map fun v => v.category).sum + 13 ≤ R.locals ∧ cells ≤ R.cells ∧ slots ≤ R.slots) (hd : decode cc pc = .ok (.invokestatic index, 3))
    (kk : Gm p l e R s m args below meth c D cy ad A L nL cells slots Q (pc + 3) lv (.int (if y < x then y else x) :: stk) st) : Gm p l e R s m args below meth c D cy ad A L nL cells slots Q pc lv (.int y :: .int x :: stk) st := by
  intro H locs ls hP hS hl
  exact va_mmin C.1 C.2.1 (C.2.2.1.trans hl.1.symm) C.2.2.2.1 (C.2.2.2.2.1 _ hlink) (C.2.2.2.2.1 _ hstat) (C.2.2.2.2.1 _ hini) (C.2.2.2.2.1 _ hcode) hR.1 hR.2.1 hR.2.2.1 hR.2.2.2 hd (kk H locs ls hP hS hl)
theorem g_max (C : Cx p s m args c cc own nL D cy ad A L) {index : Nat} {x y : Int32} (hlink : Cond.methodLink own index Lib.Math.max.name ∈ gtb) (hstat : Cond.static Lib.Math.max.name ∈ gtb) (hini : Cond.initialized "java/lang/Math" ∈ gtb) (hcode : Cond.code Lib.Math.max.name Lib.Math.max.code 2 (some .int) ∈ gtb) (hR : 1 ≤ R.frames ∧ (stk.map fun v => v.category).sum + 13 ≤ R.locals ∧ cells ≤ R.cells ∧ slots ≤ R.slots) (hd : decode cc pc = .ok (.invokestatic index, 3))
    (kk : Gm p l e R s m args below meth c D cy ad A L nL cells slots Q (pc + 3) lv (.int (if x < y then y else x) :: stk) st) : Gm p l e R s m args below meth c D cy ad A L nL cells slots Q pc lv (.int y :: .int x :: stk) st := by
  intro H locs ls hP hS hl
  exact va_mmax C.1 C.2.1 (C.2.2.1.trans hl.1.symm) C.2.2.2.1 (C.2.2.2.2.1 _ hlink) (C.2.2.2.2.1 _ hstat) (C.2.2.2.2.1 _ hini) (C.2.2.2.2.1 _ hcode) hR.1 hR.2.1 hR.2.2.1 hR.2.2.2 hd (kk H locs ls hP hS hl)
theorem g_abs (C : Cx p s m args c cc own nL D cy ad A L) {index : Nat} {x : Int32} (hlink : Cond.methodLink own index Lib.Math.abs.name ∈ gtb) (hstat : Cond.static Lib.Math.abs.name ∈ gtb) (hini : Cond.initialized "java/lang/Math" ∈ gtb) (hcode : Cond.code Lib.Math.abs.name Lib.Math.abs.code 1 (some .int) ∈ gtb) (hR : 1 ≤ R.frames ∧ (stk.map fun v => v.category).sum + 13 ≤ R.locals ∧ cells ≤ R.cells ∧ slots ≤ R.slots) (hd : decode cc pc = .ok (.invokestatic index, 3))
    (kk : Gm p l e R s m args below meth c D cy ad A L nL cells slots Q (pc + 3) lv (.int (if 0 ≤ x then x else 0 - x) :: stk) st) : Gm p l e R s m args below meth c D cy ad A L nL cells slots Q pc lv (.int x :: stk) st := by
  intro H locs ls hP hS hl
  exact va_mabs C.1 C.2.1 (C.2.2.1.trans hl.1.symm) C.2.2.2.1 (C.2.2.2.2.1 _ hlink) (C.2.2.2.2.1 _ hstat) (C.2.2.2.2.1 _ hini) (C.2.2.2.2.1 _ hcode) hR.1 hR.2.1 hR.2.2.1 hR.2.2.2 hd (kk H locs ls hP hS hl)
theorem g_copy (C : Cx p s m args c cc own nL D cy ad A L) {index k0 k1 n0 n1 : Nat} {sp dp n : Int32} {B : St → Option ρ} (hlink : Cond.methodLink own index arraycopyName ∈ gtb) (hnat : Cond.native arraycopyName ∈ gtb) (hstat : Cond.static arraycopyName ∈ gtb) (hini : Cond.initialized "java/lang/System" ∈ gtb) (hk0 : k0 ∈ L) (hkd0 : kd k0 = 9) (hn0 : ln k0 = n0) (hk1 : k1 ∈ L) (hkd1 : kd k1 = 9) (hn1 : ln k1 = n1) (hR : 1 ≤ R.frames ∧ (stk.map fun v => v.category).sum + (nativeFrameWords "java/lang/System" "arraycopy" 5 + 11) ≤ R.locals) (hd : decode cc pc = .ok (.invokestatic index, 3))
    (h : ck (decide (0 ≤ sp ∧ 0 ≤ dp ∧ 0 ≤ n ∧ sp.toNatClampNeg + n.toNatClampNeg ≤ n0 ∧ dp.toNatClampNeg + n.toNatClampNeg ≤ n1)) (lt (upr st k1 (va_cpy (st k0) (st k1) sp.toNatClampNeg dp.toNatClampNeg n.toNatClampNeg)) B) = some res)
    (kk : ∀ st1 : St, B st1 = some res → Gm p l e R s m args below meth c D cy ad A L nL cells slots Q (pc + 3) lv stk st1) : Gm p l e R s m args below meth c D cy ad A L nL cells slots Q pc lv (.int n :: .int dp :: .ref (ad k1) :: .int sp :: .ref (ad k0) :: stk) st := by
  intro H locs ls hP hS hl
  obtain ⟨q0, hq0⟩ := List.getElem?_of_mem hk0
  obtain ⟨q1, hq1⟩ := List.getElem?_of_mem hk1
  have hD := wd_D (st' := st) C.2.2.2.2.2.2
  obtain ⟨h1, h2, h3, h4, h5⟩ := of_decide_eq_true (ck_some h).1
  refine va_copyi (ty := .int) C.1 C.2.1 (C.2.2.1.trans hl.1.symm) C.2.2.2.1 (C.2.2.2.2.1 _ hlink) (C.2.2.2.2.1 _ hnat) (C.2.2.2.2.1 _ hstat) (C.2.2.2.2.1 _ hini) C.2.2.2.2.2.1 hP hD hS q0 q1 0 0 ((wd_get hq0).trans (by rw [ce_int hkd0, hn0])) ((wd_get hq1).trans (by rw [ce_int hkd1, hn1])) rfl rfl rfl (Int32.not_lt.mpr h1) (Int32.not_lt.mpr h2) (Int32.not_lt.mpr h3) h4 h5 (fun _ _ => rfl) hR.1 hR.2 hd (fun H1 locs1 hP1 hD1 hS1 => ?_)
  rw [wd_set hD hq1 (st' := upr st k1 (va_cpy (st k0) (st k1) sp.toNatClampNeg dp.toNatClampNeg n.toNatClampNeg)) (by rw [ce_int hkd1, upr_at, hn1]) (fun i hi => ce_ne (upr_ne hi))] at hP1
  exact kk _ (ck_some h).2 H1 locs1 ls hP1 hS1 hl
theorem blind {av : List Value} : FrameBlind (va_Pc av (Wld D cy ad A L st)) := fun a U g mk q => by
  obtain ⟨q0, qP, qK, qD⟩ := q
  exact ⟨q0, qP, va_K.moved (u := U) (U := U.calling g mk a) (Vm.Alike.refl U.vm) qK, qD⟩
/-- what the tables say of a method -/
def MF (y : MethodName) (bytes : ByteArray) (maxL : Nat) (ret : Option FieldType) (n : Nat) : Prop := Cond.code y bytes maxL ret ∈ gtb ∧ Cond.initialized y.cls ∈ gtb ∧ (y.cls ≠ "java/lang/invoke/MethodHandle" ∧ y.cls ≠ "java/lang/invoke/VarHandle") ∧ (parseMethodDescriptor y.desc).map (fun d => d.parameters.length) = some n
theorem mf_B {index n d maxL : Nat} {y : MethodName} {bytes : ByteArray} {ret : Option FieldType} (C : Cx p s m args c cc own nL D cy ad A L) (F : MF y bytes maxL ret n) (hlink : Cond.methodLink own index y ∈ gtb) (hR : d + 1 ≤ R.frames ∧ 8 + (maxL + 11) + 40 * d ≤ R.locals) : CallB R s args own index y bytes maxL ret (wsy y bytes maxL ret) (rmD d) 0 0 n :=
  callB_of n C.2.2.2.2.1 (wsy_good F.1) rfl rfl rfl (C.2.2.2.2.1 _ F.2.1) (C.2.2.2.2.1 _ hlink) ⟨F.2.2.1.1, F.2.2.1.2, F.2.2.2⟩ hR
theorem g_run {st' : St} {ov : Option Value} {rest st0 : List Value} {a : Array Value} {H : Heap} {locs : List Loc} {ls : Array Slot} (hr : va_Run p l e R s m args below meth c H locs cells slots 0 0 (F0 m pc ls st0) rest (QG D cy ad A L ov st' a) A) (hS : va_S A s.heap H locs) (hl : lv_has ls nL lv)
    (kk : Gm p l e R s m args below meth c D cy ad A L nL cells slots Q (pc + 3) lv (ov.toList ++ rest) st') : W p l e R s m args below meth c H locs cells slots Q (F0 m pc ls st0) := by
  intro T hT X
  obtain ⟨v, st₀, t, T', L', h0, X', hL, e1, e2, ⟨hv, ⟨hP1, -, -⟩, hz, hk⟩, st⟩ := hr T hT X
  cases hv
  rw [h0] at hz hk
  obtain ⟨t2, a1, b1⟩ := kk T'.heap (locs ++ L') ls (by rw [e1]; exact hP1) ⟨Nat.le_trans hS.1 (by rw [e1]; exact hz), fun q h1 h2 => by rw [e1, hk q (Nat.lt_of_lt_of_le h1 hS.1) h2]; exact hS.2.1 q h1 h2, fun q hq => by
      rcases List.mem_append.mp hq with h | h
      · exact hS.2.2 q h
      · exact hL q h⟩ hl T' rfl X'
  exact ⟨t2, st t2 a1, b1⟩
theorem g_callV (C : Cx p s m args c cc own nL D cy ad A L) {index n d maxL k ci : Nat} {y : MethodName} {bytes : ByteArray} {ret : Option FieldType} {Cn : String} {T : u_T} {N : Nat} {As rest : List Value} {st' : St} {ov : Option Value} (F : MF y bytes maxL ret n) (ok : clsOk ci (Cn, T, N)) (hy : y.cls = Cn) (hlink : Cond.methodLink own index y ∈ gtb) (hinst : Cond.instanceMethod y ∈ gtb) (hsel : Cond.selects y.cls y y ∈ gtb) (hd : decode cc pc = .ok (.invokevirtual index, 3)) (hk : k ∈ L) (hkd : kd k = ci) (hn : As.length = n) (hs : stk = As.reverse ++ .ref (ad k) :: rest) (hR : d + 1 ≤ R.frames ∧ 8 + (maxL + 11) + 40 * d ≤ R.locals) (hrest : (rest.map fun v => v.category).sum ≤ 8) (hcs : cells + 0 ≤ R.cells ∧ slots + 0 ≤ R.slots) (hM : Ct l D cy ad A L y bytes maxL ret d (.ref (ad k) :: As) st ov st')
    (kk : Gm p l e R s m args below meth c D cy ad A L nL cells slots Q (pc + 3) lv (ov.toList ++ rest) st') : Gm p l e R s m args below meth c D cy ad A L nL cells slots Q pc lv stk st := by
  intro H locs ls hP hS hl
  subst hs
  obtain ⟨hc, h9, -⟩ := ok
  obtain ⟨q, hq⟩ := List.getElem?_of_mem hk
  subst hy
  refine g_run (va_runV (C := y.cls) ⟨C.1, C.2.1, C.2.2.1, C.2.2.2.1, C.2.2.2.2.1⟩ hM ⟨mf_B C F hlink hR, C.2.2.2.2.1 _ hinst, C.2.2.2.2.1 _ hsel⟩ ⟨blind, va_recv C.2.2.2.2.2.1 hP hc ((wd_get hq).trans (by rw [ce_obj hkd h9])), fun U hU hW => ⟨rfl, by rw [hU]; exact hP, va_K.moved hW.alike C.2.2.2.2.2.1, C.2.2.2.2.2.2⟩⟩ rfl hn hl.1 rfl (lv_room hrest) hd hcs) hS hl kk
theorem g_callS (C : Cx p s m args c cc own nL D cy ad A L) {index n d maxL : Nat} {y : MethodName} {bytes : ByteArray} {ret : Option FieldType} {As rest : List Value} {st' : St} {ov : Option Value} (F : MF y bytes maxL ret n) (hlink : Cond.methodLink own index y ∈ gtb) (hstat : Cond.static y ∈ gtb) (hd : decode cc pc = .ok (.invokestatic index, 3)) (hn : As.length = n) (hs : stk = As.reverse ++ rest) (hR : d + 1 ≤ R.frames ∧ 8 + (maxL + 11) + 40 * d ≤ R.locals) (hrest : (rest.map fun v => v.category).sum ≤ 8) (hcs : cells + 0 ≤ R.cells ∧ slots + 0 ≤ R.slots) (hM : Ct l D cy ad A L y bytes maxL ret d As st ov st')
    (kk : Gm p l e R s m args below meth c D cy ad A L nL cells slots Q (pc + 3) lv (ov.toList ++ rest) st') : Gm p l e R s m args below meth c D cy ad A L nL cells slots Q pc lv stk st := by
  intro H locs ls hP hS hl
  subst hs
  refine g_run (va_runS ⟨C.1, C.2.1, C.2.2.1, C.2.2.2.1, C.2.2.2.2.1⟩ hM ⟨mf_B C F hlink hR, C.2.2.2.2.1 _ hstat⟩ ⟨blind, fun U hU hW => ⟨rfl, by rw [hU]; exact hP, va_K.moved hW.alike C.2.2.2.2.2.1, C.2.2.2.2.2.2⟩⟩ rfl hn hl.1 rfl (lv_room hrest) hd hcs) hS hl kk
theorem g_iret (C : Cx p s m args c cc own nL D cy ad A L) {v r : Int32} {st' : St} (hr : meth.sig.returnType = some .int) (hlk : meth.locks = false) (hd : decode cc pc = .ok (.ireturn, 1)) (h : some (v, st) = some (r, st')) : Gm p l e R s m args below meth c D cy ad A L nL 0 0 (MQ below (QG D cy ad A L (some (.int r)) st') args s 0 0 A) pc lv [.int v] st := by
  intro H locs ls hP hS hl
  cases h
  exact W.iret C.1 C.2.1 hr (fun t ht hW => ⟨rfl, ⟨by rw [ht]; exact hP, va_K.moved hW.alike C.2.2.2.2.2.1, C.2.2.2.2.2.2⟩, hS.F ht⟩) hS.2.2 hd
theorem g_zret (C : Cx p s m args c cc own nL D cy ad A L) {v r : Int32} {st' : St} (hr : meth.sig.returnType = some .boolean) (hlk : meth.locks = false) (hd : decode cc pc = .ok (.ireturn, 1)) (h : ck (decide (narrow .boolean (.int v) = .int v)) (some (v, st)) = some (r, st')) : Gm p l e R s m args below meth c D cy ad A L nL 0 0 (MQ below (QG D cy ad A L (some (.int r)) st') args s 0 0 A) pc lv [.int v] st := by
  intro H locs ls hP hS hl
  obtain ⟨h1, h⟩ := ck_some h
  cases h
  exact W.zret C.1 C.2.1 hr (of_decide_eq_true h1) (fun t ht hW => ⟨rfl, ⟨by rw [ht]; exact hP, va_K.moved hW.alike C.2.2.2.2.2.1, C.2.2.2.2.2.2⟩, hS.F ht⟩) hS.2.2 hd
theorem g_lret (C : Cx p s m args c cc own nL D cy ad A L) {v r : Int64} {st' : St} (hr : meth.sig.returnType = some .long) (hlk : meth.locks = false) (hd : decode cc pc = .ok (.lreturn, 1)) (h : some (v, st) = some (r, st')) : Gm p l e R s m args below meth c D cy ad A L nL 0 0 (MQ below (QG D cy ad A L (some (.long r)) st') args s 0 0 A) pc lv [.long v] st := by
  intro H locs ls hP hS hl
  cases h
  exact W.lret C.1 C.2.1 hr (fun t ht hW => ⟨rfl, ⟨by rw [ht]; exact hP, va_K.moved hW.alike C.2.2.2.2.2.1, C.2.2.2.2.2.2⟩, hS.F ht⟩) hS.2.2 hd
theorem g_aret (C : Cx p s m args c cc own nL D cy ad A L) {v r : Nat} {st' : St} {rt : FieldType} (hr : meth.sig.returnType = some rt) (hlk : meth.locks = false) (hrt : (∃ n, rt = FieldType.object n) ∨ ∃ t, rt = FieldType.array t) (hd : decode cc pc = .ok (.areturn, 1)) (h : some (v, st) = some (r, st')) : Gm p l e R s m args below meth c D cy ad A L nL 0 0 (MQ below (QG D cy ad A L (some (.ref (ad r))) st') args s 0 0 A) pc lv [.ref (ad v)] st := by
  intro H locs ls hP hS hl
  cases h
  exact W.aret C.1 C.2.1 hr hrt (Or.inr ⟨_, rfl⟩) (fun t ht hW => ⟨rfl, ⟨by rw [ht]; exact hP, va_K.moved hW.alike C.2.2.2.2.2.1, C.2.2.2.2.2.2⟩, hS.F ht⟩) hS.2.2 hd
theorem g_vret (C : Cx p s m args c cc own nL D cy ad A L) {st' : St} (hr : meth.sig.returnType = none) (hlk : meth.locks = false) (hd : decode cc pc = .ok (.return_, 1)) (h : some st = some st') : Gm p l e R s m args below meth c D cy ad A L nL 0 0 (MQ below (QG D cy ad A L none st') args s 0 0 A) pc lv [] st := by
  intro H locs ls hP hS hl
  cases h
  exact W.vret C.1 C.2.1 hr (fun t ht hW => ⟨rfl, ⟨by rw [ht]; exact hP, va_K.moved hW.alike C.2.2.2.2.2.1, C.2.2.2.2.2.2⟩, hS.F ht⟩) hS.2.2 hd
theorem g_swIn (C : Cx p s m args c cc own nL D cy ad A L) {dflt lo hi : Int} {offs : Array Int} {len : Nat} {x k : Int32} {off : Int} {tgt : Nat} (hd : decode cc pc = .ok (.tableswitch dflt lo hi offs, len)) (hx : x = k) (h1 : ¬ k.toInt < lo) (h2 : ¬ hi < k.toInt) (ho : offs[(k.toInt - lo).toNat]? = some off) (ht : (pc : Int) + off = (tgt : Int)) (kk : Gm p l e R s m args below meth c D cy ad A L nL cells slots Q tgt lv stk st) : Gm p l e R s m args below meth c D cy ad A L nL cells slots Q pc lv (.int x :: stk) st := by
  subst hx
  exact fun H locs ls hP hS hl => lv_tableIn C.1 C.2.1 hd h1 h2 ho ht (kk H locs ls hP hS hl)
theorem g_swOut (C : Cx p s m args c cc own nL D cy ad A L) {dflt lo hi : Int} {offs : Array Int} {len : Nat} {x : Int32} {tgt : Nat} (hd : decode cc pc = .ok (.tableswitch dflt lo hi offs, len)) (hx : x.toInt < lo ∨ hi < x.toInt) (ht : (pc : Int) + dflt = (tgt : Int)) (kk : Gm p l e R s m args below meth c D cy ad A L nL cells slots Q tgt lv stk st) : Gm p l e R s m args below meth c D cy ad A L nL cells slots Q pc lv (.int x :: stk) st :=
  fun H locs ls hP hS hl => lv_tableOut C.1 C.2.1 hd hx ht (kk H locs ls hP hS hl)
theorem ct_of {y : MethodName} {maxL d : Nat} {ret : Option FieldType} {av : List Value} {st' : St} {ov : Option Value} (hy : plainName y.cls = true) (hown : y.cls = own) (hav : (lg_sl av).length ≤ maxL)
    (body : ∀ (p : Program) (e : Env) (s : State) (m : MethodId) (args : Array Value) (below : List Frame) (meth : Method) (c : Code), Cx p s m args c cc own maxL D cy ad A L → meth.sig.returnType = ret → meth.locks = false → Gm p l e (rmD d) s m args below meth c D cy ad A L maxL 0 0 (MQ below (QG D cy ad A L ov st') args s 0 0 A) 0 (lv_args 0 av) [] st) : Ct l D cy ad A L y cc maxL ret d av st ov st' := by
  subst hown
  refine Met.ofW (cc := cc) (maxL := maxL) (ret := ret) hy rfl ?_
  intro p e s m args below meth c s₁ B hml hv
  obtain ⟨rfl, hP, hK, hD⟩ := hv
  have hts := atoms_spec (ws := wsy y cc maxL ret) B.pre
  have hl := lv_entry av (n := maxL) hav
  rw [lg_entry_eq]
  exact body p e s m _ below meth c ⟨B.exec, B.bytes, hml, findClass_of_methodNamed B.named, fun w hw => hts w (List.mem_cons_of_mem _ hw), hK, hD⟩ B.returns B.notSynchronized s.heap [] _ hP va_S.rf hl
end GR
