section SM
variable {p : Program} {l : Launch} {e : Env} {s : State} {m : MethodId} {args : Array Value} {below : List Frame} {meth : Method} {c : Code} {D : va_G} {cy : Nat → ClassId} {ad : Nat → Nat} {A : Nat → Prop} {L : List Nat}
-- X5_isFar
def F_X5_isFar (v1 : Int32) (v2 : Int32) (st : St) : Option (Int32) :=
  lt (some (0 : Int32)) (fun (j21 : Option (Int32)) => (if v1 = v2 then j21 else (if (((st 1 5) >>> ((if 0 ≤ (v1 - v2) then (v1 - v2) else 0 - (v1 - v2)) &&& 31)) &&& (1 : Int32)) = 0 then some (1 : Int32) else j21)))
set_option maxHeartbeats 4000000 in
set_option maxRecDepth 100000 in
theorem ct_X5_isFar (hL : ∀ k, prM k = true → k ∈ L) {v1 : Int32} {v2 : Int32} {st : St} {r' : Int32} (h : F_X5_isFar v1 v2 st = some r') : Ct l D cy ad A L yX5_isFar cX5_isFar 3 (some .boolean) 1 [.ref (ad 1), .int v1, .int v2] st (some (.int r')) st := by
  unfold F_X5_isFar at h
  refine ct_of (own := RX5) (by decide) rfl (Nat.le_of_ble_eq_true rfl) ?_
  intro p e s m args below meth c C hr hlk
  refine g_sub (lv2 := [(0, .ref (ad 1)), (1, .int v1), (2, .int v2)]) [0, 1, 2] rfl ?_
  refine g_iload_n C dX5_isFar_0 rfl 1 rfl ?_
  refine g_iload_n C dX5_isFar_1 rfl 2 rfl ?_
  replace h := lt_ex h
  obtain ⟨j21, ej21, h⟩ := h
  have hj21 : j21 = some r' → Gm p l e (rmD 1) s m args below meth c D cy ad A L 3 0 0 (MQ below (QG D cy ad A L (some (.int r')) st) args s 0 0 A) 25 [] [] st := by
    intro h
    rw [ej21] at h
    skip
    refine g_iconst (v := (0 : Int32)) C dX5_isFar_25 (by decide) ?_
    exact g_zretLP C hr hlk rfl dX5_isFar_26 h
  refine g_icmp_eq (tgt := 25) C dX5_isFar_2 (by decide) h ?_ ?_
  · clear h; intro hc2 h
    refine g_sub (lv2 := []) [] rfl ?_
    exact hj21  h
  · clear h; intro hc2 h
    refine g_aload_n C dX5_isFar_5 rfl 0 rfl ?_
    refine g_getI C ok5 dX5_isFar_6 (hL 1 rfl) rfl 5 (by decide) lk_X5_24 rfl ?_
    refine g_iload_n C dX5_isFar_9 rfl 1 rfl ?_
    refine g_iload_n C dX5_isFar_10 rfl 2 rfl ?_
    refine g_isub C dX5_isFar_11 ?_
    refine g_abs C lk_X5_43 sm_abs ini_Math cd_abs ⟨Nat.le_of_ble_eq_true rfl, Nat.le_of_ble_eq_true rfl, Nat.le_refl 0, Nat.le_refl 0⟩ dX5_isFar_12 ?_
    refine g_ishr C dX5_isFar_15 ?_
    refine g_iconst (v := (1 : Int32)) C dX5_isFar_16 (by decide) ?_
    refine g_iand C dX5_isFar_17 ?_
    refine g_if_ne (tgt := 25) C dX5_isFar_18 (by decide) h ?_ ?_
    · clear h; intro hc18 h
      refine g_sub (lv2 := []) [] rfl ?_
      exact hj21  h
    · clear h; intro hc18 h
      refine g_iconst (v := (1 : Int32)) C dX5_isFar_21 (by decide) ?_
      refine g_goto (tgt := 26) C dX5_isFar_22 (by decide) ?_
      exact g_zretLP C hr hlk rfl dX5_isFar_26 h
-- X6_measure
def lpB_X6_measure_10 (v2 : Int32) (K47 : St → Option (St)) (self : Int32 → St → Option (St)) (v3 : Int32) (st : St) : Option (St) :=
  (if (7 : Int32) ≤ v3 then K47 st else bs (F_X5_isFar v2 v3 st) (fun (r23 : Int32) => (if r23 = 0 then ck (inb ((v2 * (8 : Int32)) + v3) 64) (lt (up st 27 ((v2 * (8 : Int32)) + v3).toNatClampNeg (0 : Int32)) (fun (s24 : St) => lt (v3 + (1 : Int32)) (fun (v25 : Int32) => self v25 s24))) else ck (inb ((v2 * (8 : Int32)) + v3) 64) (lt (up st 27 ((v2 * (8 : Int32)) + v3).toNatClampNeg (1 : Int32)) (fun (s26 : St) => lt (v3 + (1 : Int32)) (fun (v27 : Int32) => self v27 s26))))))
def lp_X6_measure_10 (v2 : Int32) (K47 : St → Option (St)) : Nat → Int32 → St → Option (St) := itf (lpB_X6_measure_10 v2 K47) (fun _ _ => none)
def lpB_X6_measure_2 (N : Nat) (self : Int32 → St → Option (St)) (v2 : Int32) (st : St) : Option (St) :=
  (if (7 : Int32) ≤ v2 then some st else lt (0 : Int32) (fun (v22 : Int32) => lp_X6_measure_10 v2 (fun (s28 : St) => lt (v2 + (1 : Int32)) (fun (v29 : Int32) => self v29 s28)) N v22 st))
def lp_X6_measure_2 (N : Nat) : Nat → Int32 → St → Option (St) := itf (lpB_X6_measure_2 N) (fun _ _ => none)
def F_X6_measure (N : Nat) (st : St) : Option (St) :=
  lt (0 : Int32) (fun (v21 : Int32) => lp_X6_measure_2 N  N v21 st)
set_option maxHeartbeats 4000000 in
set_option maxRecDepth 100000 in
theorem wlp_X6_measure_10 (C : Cx p s m args c cX6_measure RX6 4 D cy ad A L) (hr : meth.sig.returnType = none) (hlk : meth.locks = false) (hL : ∀ k, prM k = true → k ∈ L) {N : Nat} {v2 : Int32} {st' : St} {K47 : St → Option (St)} (hK47 : ∀  (st : St), K47 st = some st' → Gm p l e (rmD 2) s m args below meth c D cy ad A L 4 0 0 (MQ below (QG D cy ad A L none st') args s 0 0 A) 47 [(0, .ref (ad 25)), (1, .ref (ad 1)), (2, .int v2)] [] st) : ∀ (n : Nat) (v3 : Int32) (st : St), lp_X6_measure_10 v2 K47 n v3 st = some st' → Gm p l e (rmD 2) s m args below meth c D cy ad A L 4 0 0 (MQ below (QG D cy ad A L none st') args s 0 0 A) 10 [(0, .ref (ad 25)), (1, .ref (ad 1)), (2, .int v2), (3, .int v3)] [] st := by
  intro n
  induction n with
  | zero => intro v3 st h; cases h
  | succ n ih =>
    intro v3 st h
    change lpB_X6_measure_10 v2 K47 (lp_X6_measure_10 v2 K47 n) v3 st = some _ at h
    unfold lpB_X6_measure_10 at h
    refine g_iload_n C dX6_measure_10 rfl 3 rfl ?_
    refine g_bipush (v := (7 : Int32)) C dX6_measure_11 (by decide) ?_
    refine g_icmp_ge (tgt := 47) C dX6_measure_13 (by decide) h ?_ ?_
    · clear h; intro hc13 h
      refine g_sub (lv2 := [(0, .ref (ad 25)), (1, .ref (ad 1)), (2, .int v2)]) [0, 1, 2] rfl ?_
      exact hK47 _ h
    · clear h; intro hc13 h
      refine g_aload_n C dX6_measure_16 rfl 0 rfl ?_
      refine g_getR (k2 := 27) C ok6 dX6_measure_17 (hL 25 rfl) rfl 1 (by decide) lk_X6_15 rfl rfl ?_
      refine g_iload_n C dX6_measure_20 rfl 2 rfl ?_
      refine g_bipush (v := (8 : Int32)) C dX6_measure_21 (by decide) ?_
      refine g_imul C dX6_measure_23 ?_
      refine g_iload_n C dX6_measure_24 rfl 3 rfl ?_
      refine g_iadd C dX6_measure_25 ?_
      refine g_aload_n C dX6_measure_26 rfl 1 rfl ?_
      refine g_iload_n C dX6_measure_27 rfl 2 rfl ?_
      refine g_iload_n C dX6_measure_28 rfl 3 rfl ?_
      replace h := bs_some h
      obtain ⟨r23, h1, h⟩ := h
      refine g_cV (As := [.int v2, .int v3]) (rest := [.int ((v2 * (8 : Int32)) + v3), .ref (ad 27)]) (stk2 := [.int r23, .int ((v2 * (8 : Int32)) + v3), .ref (ad 27)]) C mf_X5_isFar ok5 rfl lk_X6_103 in_X5_isFar se_X5_isFar dX6_measure_29 (hL 1 rfl) rfl rfl rfl rfl ⟨Nat.le_of_ble_eq_true rfl, Nat.le_of_ble_eq_true rfl⟩ (Nat.le_of_ble_eq_true rfl) ⟨Nat.le_refl 0, Nat.le_refl 0⟩ (ct_X5_isFar hL h1) ?_
      refine g_if_eq (tgt := 39) C dX6_measure_32 (by decide) h ?_ ?_
      · clear h; intro hc32 h
        refine g_iconst (v := (0 : Int32)) C dX6_measure_39 (by decide) ?_
        refine g_iast C dX6_measure_40 (hL 27 rfl) rfl rfl h ?_
        clear h; intro s24 h
        refine g_iinc (lv' := fun y => [(3, .int y), (0, .ref (ad 25)), (1, .ref (ad 1)), (2, .int v2)]) C dX6_measure_41 3 rfl rfl (by decide) (fun y => rfl) h ?_
        clear h; intro v25 h
        refine g_goto (tgt := 10) C dX6_measure_44 (by decide) ?_
        refine g_sub (lv2 := [(0, .ref (ad 25)), (1, .ref (ad 1)), (2, .int v2), (3, .int v25)]) [1, 2, 3, 0] rfl ?_
        exact ih _ _ h
      · clear h; intro hc32 h
        refine g_iconst (v := (1 : Int32)) C dX6_measure_35 (by decide) ?_
        refine g_goto (tgt := 40) C dX6_measure_36 (by decide) ?_
        refine g_iast C dX6_measure_40 (hL 27 rfl) rfl rfl h ?_
        clear h; intro s26 h
        refine g_iinc (lv' := fun y => [(3, .int y), (0, .ref (ad 25)), (1, .ref (ad 1)), (2, .int v2)]) C dX6_measure_41 3 rfl rfl (by decide) (fun y => rfl) h ?_
        clear h; intro v27 h
        refine g_goto (tgt := 10) C dX6_measure_44 (by decide) ?_
        refine g_sub (lv2 := [(0, .ref (ad 25)), (1, .ref (ad 1)), (2, .int v2), (3, .int v27)]) [1, 2, 3, 0] rfl ?_
        exact ih _ _ h
set_option maxHeartbeats 4000000 in
set_option maxRecDepth 100000 in
theorem wlp_X6_measure_2 (C : Cx p s m args c cX6_measure RX6 4 D cy ad A L) (hr : meth.sig.returnType = none) (hlk : meth.locks = false) (hL : ∀ k, prM k = true → k ∈ L) {N : Nat} {st' : St} : ∀ (n : Nat) (v2 : Int32) (st : St), lp_X6_measure_2 N n v2 st = some st' → Gm p l e (rmD 2) s m args below meth c D cy ad A L 4 0 0 (MQ below (QG D cy ad A L none st') args s 0 0 A) 2 [(0, .ref (ad 25)), (1, .ref (ad 1)), (2, .int v2)] [] st := by
  intro n
  induction n with
  | zero => intro v2 st h; cases h
  | succ n ih =>
    intro v2 st h
    change lpB_X6_measure_2 N (lp_X6_measure_2 N n) v2 st = some _ at h
    unfold lpB_X6_measure_2 at h
    refine g_iload_n C dX6_measure_2 rfl 2 rfl ?_
    refine g_bipush (v := (7 : Int32)) C dX6_measure_3 (by decide) ?_
    refine g_icmp_ge (tgt := 53) C dX6_measure_5 (by decide) h ?_ ?_
    · clear h; intro hc5 h
      exact g_vret C hr hlk dX6_measure_53 h
    · clear h; intro hc5 h
      refine g_iconst (v := (0 : Int32)) C dX6_measure_8 (by decide) ?_
      refine g_istore_n (lv' := fun y => [(3, .int y), (0, .ref (ad 25)), (1, .ref (ad 1)), (2, .int v2)]) C dX6_measure_9 rfl (by decide) (fun y => rfl) h ?_
      clear h; intro v22 h
      refine g_sub (lv2 := [(0, .ref (ad 25)), (1, .ref (ad 1)), (2, .int v2), (3, .int v22)]) [1, 2, 3, 0] rfl ?_
      refine wlp_X6_measure_10 (N := N) C hr hlk hL ?_ _ _ _ h
      · intro s28 h
        refine g_iinc (lv' := fun y => [(2, .int y), (0, .ref (ad 25)), (1, .ref (ad 1))]) C dX6_measure_47 2 rfl rfl (by decide) (fun y => rfl) h ?_
        clear h; intro v29 h
        refine g_goto (tgt := 2) C dX6_measure_50 (by decide) ?_
        refine g_sub (lv2 := [(0, .ref (ad 25)), (1, .ref (ad 1)), (2, .int v29)]) [1, 2, 0] rfl ?_
        exact ih _ _ h
set_option maxHeartbeats 4000000 in
set_option maxRecDepth 100000 in
theorem ct_X6_measure {N : Nat} (hL : ∀ k, prM k = true → k ∈ L) {st st' : St} (h : F_X6_measure N st = some st') : Ct l D cy ad A L yX6_measure cX6_measure 4 none 2 [.ref (ad 25), .ref (ad 1)] st none st' := by
  unfold F_X6_measure at h
  refine ct_of (own := RX6) (by decide) rfl (Nat.le_of_ble_eq_true rfl) ?_
  intro p e s m args below meth c C hr hlk
  refine g_sub (lv2 := [(0, .ref (ad 25)), (1, .ref (ad 1))]) [0, 1] rfl ?_
  refine g_iconst (v := (0 : Int32)) C dX6_measure_0 (by decide) ?_
  refine g_istore_n (lv' := fun y => [(2, .int y), (0, .ref (ad 25)), (1, .ref (ad 1))]) C dX6_measure_1 rfl (by decide) (fun y => rfl) h ?_
  clear h; intro v21 h
  refine g_sub (lv2 := [(0, .ref (ad 25)), (1, .ref (ad 1)), (2, .int v21)]) [1, 2, 0] rfl ?_
  refine wlp_X6_measure_2 (N := N) C hr hlk hL  _ _ _ h
-- J7_fill_53178
def lpB_J7_fill_53178_5 (v1 : Int32) (v3 : Int32) (a : Nat) (self : Int32 → St → Option (St)) (v2 : Int32) (st : St) : Option (St) :=
  (if v3 ≤ v2 then some st else ck (inb v2 (ln a)) (lt (up st a v2.toNatClampNeg v1) (fun (s23 : St) => lt (v2 + (1 : Int32)) (fun (v24 : Int32) => self v24 s23))))
def lp_J7_fill_53178_5 (v1 : Int32) (v3 : Int32) (a : Nat) : Nat → Int32 → St → Option (St) := itf (lpB_J7_fill_53178_5 v1 v3 a) (fun _ _ => none)
def F_J7_fill_53178 (N : Nat) (a : Nat) (v1 : Int32) (st : St) : Option (St) :=
  ck (decide (kd a = 9)) (lt (0 : Int32) (fun (v21 : Int32) => lt (Int32.ofNat (ln a)) (fun (v22 : Int32) => lp_J7_fill_53178_5 v1 v22 a  N v21 st)))
set_option maxHeartbeats 4000000 in
set_option maxRecDepth 100000 in
theorem wlp_J7_fill_53178_5 (C : Cx p s m args c cJ7_fill_53178 RJ7 4 D cy ad A L) (hr : meth.sig.returnType = none) (hlk : meth.locks = false) {N : Nat} {v1 : Int32} {v3 : Int32} {a : Nat} (kd_a : kd a = 9) (he : a ∈ L) {st' : St} : ∀ (n : Nat) (v2 : Int32) (st : St), lp_J7_fill_53178_5 v1 v3 a n v2 st = some st' → Gm p l e (rmD 1) s m args below meth c D cy ad A L 4 0 0 (MQ below (QG D cy ad A L none st') args s 0 0 A) 5 [(0, .ref (ad a)), (1, .int v1), (2, .int v2), (3, .int v3)] [] st := by
  intro n
  induction n with
  | zero => intro v2 st h; cases h
  | succ n ih =>
    intro v2 st h
    change lpB_J7_fill_53178_5 v1 v3 a (lp_J7_fill_53178_5 v1 v3 a n) v2 st = some _ at h
    unfold lpB_J7_fill_53178_5 at h
    refine g_iload_n C dJ7_fill_53178_5 rfl 2 rfl ?_
    refine g_iload_n C dJ7_fill_53178_6 rfl 3 rfl ?_
    refine g_icmp_ge (tgt := 20) C dJ7_fill_53178_7 (by decide) h ?_ ?_
    · clear h; intro hc7 h
      exact g_vret C hr hlk dJ7_fill_53178_20 h
    · clear h; intro hc7 h
      refine g_aload_n C dJ7_fill_53178_10 rfl 0 rfl ?_
      refine g_iload_n C dJ7_fill_53178_11 rfl 2 rfl ?_
      refine g_iload_n C dJ7_fill_53178_12 rfl 1 rfl ?_
      refine g_iast C dJ7_fill_53178_13 he kd_a rfl h ?_
      clear h; intro s23 h
      refine g_iinc (lv' := fun y => [(2, .int y), (0, .ref (ad a)), (1, .int v1), (3, .int v3)]) C dJ7_fill_53178_14 2 rfl rfl (by decide) (fun y => rfl) h ?_
      clear h; intro v24 h
      refine g_goto (tgt := 5) C dJ7_fill_53178_17 (by decide) ?_
      refine g_sub (lv2 := [(0, .ref (ad a)), (1, .int v1), (2, .int v24), (3, .int v3)]) [1, 2, 0, 3] rfl ?_
      exact ih _ _ h
set_option maxHeartbeats 4000000 in
set_option maxRecDepth 100000 in
theorem ct_J7_fill_53178 {N : Nat} {a : Nat} (he : a ∈ L) {v1 : Int32} {st st' : St} (h : F_J7_fill_53178 N a v1 st = some st') : Ct l D cy ad A L yJ7_fill_53178 cJ7_fill_53178 4 none 1 [.ref (ad a), .int v1] st none st' := by
  unfold F_J7_fill_53178 at h
  refine ct_of (own := RJ7) (by decide) rfl (Nat.le_of_ble_eq_true rfl) ?_
  intro p e s m args below meth c C hr hlk
  refine g_sub (lv2 := [(0, .ref (ad a)), (1, .int v1)]) [0, 1] rfl ?_
  replace h := ck_some h
  obtain ⟨hg_a, h⟩ := h
  have kd_a : kd a = 9 := of_decide_eq_true hg_a
  refine g_iconst (v := (0 : Int32)) C dJ7_fill_53178_0 (by decide) ?_
  refine g_istore_n (lv' := fun y => [(2, .int y), (0, .ref (ad a)), (1, .int v1)]) C dJ7_fill_53178_1 rfl (by decide) (fun y => rfl) h ?_
  clear h; intro v21 h
  refine g_aload_n C dJ7_fill_53178_2 rfl 1 rfl ?_
  refine g_alen (v := (Int32.ofNat (ln a))) C dJ7_fill_53178_3 he kd_a rfl rfl ?_
  refine g_istore_n (lv' := fun y => [(3, .int y), (2, .int v21), (0, .ref (ad a)), (1, .int v1)]) C dJ7_fill_53178_4 rfl (by decide) (fun y => rfl) h ?_
  clear h; intro v22 h
  refine g_sub (lv2 := [(0, .ref (ad a)), (1, .int v1), (2, .int v21), (3, .int v22)]) [2, 3, 1, 0] rfl ?_
  refine wlp_J7_fill_53178_5 (N := N) C hr hlk kd_a he  _ _ _ h
-- X3_forget
def lpB_X3_forget_2 (K27 : St → Option (St)) (self : Int32 → St → Option (St)) (v1 : Int32) (st : St) : Option (St) :=
  (if (6 : Int32) ≤ v1 then K27 st else ck (inb v1 6) (lt (up st (38 + 3 * v1.toNatClampNeg) 0 (0 : Int32)) (fun (s23 : St) => lt (v1 + (1 : Int32)) (fun (v24 : Int32) => self v24 s23))))
def lp_X3_forget_2 (K27 : St → Option (St)) : Nat → Int32 → St → Option (St) := itf (lpB_X3_forget_2 K27) (fun _ _ => none)
def lpB_X3_forget_29 (N : Nat) (self : Int32 → St → Option (St)) (v1 : Int32) (st : St) : Option (St) :=
  (if (2 : Int32) ≤ v1 then some st else ck (inb v1 2) (bs (F_J7_fill_53178 N (57 + 1 * v1.toNatClampNeg) (1 : Int32) st) (fun (s28 : St) => ck (inb v1 2) (bs (F_J7_fill_53178 N (60 + 1 * v1.toNatClampNeg) (-1 : Int32) s28) (fun (s30 : St) => lt (v1 + (1 : Int32)) (fun (v31 : Int32) => self v31 s30))))))
def lp_X3_forget_29 (N : Nat) : Nat → Int32 → St → Option (St) := itf (lpB_X3_forget_29 N) (fun _ _ => none)
def F_X3_forget (N : Nat) (st : St) : Option (St) :=
  lt (0 : Int32) (fun (v21 : Int32) => lp_X3_forget_2 (fun (s25 : St) => lt (0 : Int32) (fun (v26 : Int32) => lp_X3_forget_29 N  N v26 s25)) N v21 st)
set_option maxHeartbeats 4000000 in
set_option maxRecDepth 100000 in
theorem wlp_X3_forget_2 (C : Cx p s m args c cX3_forget RX3 2 D cy ad A L) (hr : meth.sig.returnType = none) (hlk : meth.locks = false) (hL : ∀ k, prG k = true → k ∈ L) {N : Nat} {st' : St} {K27 : St → Option (St)} (hK27 : ∀  (st : St), K27 st = some st' → Gm p l e (rmD 2) s m args below meth c D cy ad A L 2 0 0 (MQ below (QG D cy ad A L none st') args s 0 0 A) 27 [(0, .ref (ad 32))] [] st) : ∀ (n : Nat) (v1 : Int32) (st : St), lp_X3_forget_2 K27 n v1 st = some st' → Gm p l e (rmD 2) s m args below meth c D cy ad A L 2 0 0 (MQ below (QG D cy ad A L none st') args s 0 0 A) 2 [(0, .ref (ad 32)), (1, .int v1)] [] st := by
  intro n
  induction n with
  | zero => intro v1 st h; cases h
  | succ n ih =>
    intro v1 st h
    change lpB_X3_forget_2 K27 (lp_X3_forget_2 K27 n) v1 st = some _ at h
    unfold lpB_X3_forget_2 at h
    refine g_iload_n C dX3_forget_2 rfl 1 rfl ?_
    refine g_aload_n C dX3_forget_3 rfl 0 rfl ?_
    refine g_getR (k2 := 37) C ok3 dX3_forget_4 (hL 32 rfl) rfl 3 (by decide) lk_X3_11 rfl rfl ?_
    refine g_alenP (v := (6 : Int32)) C dX3_forget_7 (hL 37 rfl) rfl rfl rfl ?_
    refine g_icmp_ge (tgt := 27) C dX3_forget_8 (by decide) h ?_ ?_
    · clear h; intro hc8 h
      refine g_sub (lv2 := [(0, .ref (ad 32))]) [0] rfl ?_
      exact hK27 _ h
    · clear h; intro hc8 h
      refine g_aload_n C dX3_forget_11 rfl 0 rfl ?_
      refine g_getR (k2 := 37) C ok3 dX3_forget_12 (hL 32 rfl) rfl 3 (by decide) lk_X3_11 rfl rfl ?_
      refine g_iload_n C dX3_forget_15 rfl 1 rfl ?_
      have hb22 := (ck_some h).1
      refine g_aaldP C dX3_forget_16 (hL 37 rfl) rfl rfl rfl h ?_
      clear h; intro h
      refine g_iconst (v := (0 : Int32)) C dX3_forget_17 (by decide) ?_
      refine g_put (ty := .boolean) C ok2 dX3_forget_18 (hL _ (prG_Pl hb22)) (kdPl hb22) 0 (by decide) lk_X3_56 rfl (tyX2_ok 0 (by decide)) rfl rfl rfl h ?_
      clear h; intro s23 h
      refine g_iinc (lv' := fun y => [(1, .int y), (0, .ref (ad 32))]) C dX3_forget_21 1 rfl rfl (by decide) (fun y => rfl) h ?_
      clear h; intro v24 h
      refine g_goto (tgt := 2) C dX3_forget_24 (by decide) ?_
      refine g_sub (lv2 := [(0, .ref (ad 32)), (1, .int v24)]) [1, 0] rfl ?_
      exact ih _ _ h
set_option maxHeartbeats 4000000 in
set_option maxRecDepth 100000 in
theorem wlp_X3_forget_29 (C : Cx p s m args c cX3_forget RX3 2 D cy ad A L) (hr : meth.sig.returnType = none) (hlk : meth.locks = false) (hL : ∀ k, prG k = true → k ∈ L) {N : Nat} {st' : St} : ∀ (n : Nat) (v1 : Int32) (st : St), lp_X3_forget_29 N n v1 st = some st' → Gm p l e (rmD 2) s m args below meth c D cy ad A L 2 0 0 (MQ below (QG D cy ad A L none st') args s 0 0 A) 29 [(0, .ref (ad 32)), (1, .int v1)] [] st := by
  intro n
  induction n with
  | zero => intro v1 st h; cases h
  | succ n ih =>
    intro v1 st h
    change lpB_X3_forget_29 N (lp_X3_forget_29 N n) v1 st = some _ at h
    unfold lpB_X3_forget_29 at h
    refine g_iload_n C dX3_forget_29 rfl 1 rfl ?_
    refine g_iconst (v := (2 : Int32)) C dX3_forget_30 (by decide) ?_
    refine g_icmp_ge (tgt := 60) C dX3_forget_31 (by decide) h ?_ ?_
    · clear h; intro hc31 h
      exact g_vret C hr hlk dX3_forget_60 h
    · clear h; intro hc31 h
      refine g_aload_n C dX3_forget_34 rfl 0 rfl ?_
      refine g_getR (k2 := 56) C ok3 dX3_forget_35 (hL 32 rfl) rfl 4 (by decide) lk_X3_19 rfl rfl ?_
      refine g_iload_n C dX3_forget_38 rfl 1 rfl ?_
      have hb27 := (ck_some h).1
      refine g_aaldI C dX3_forget_39 (hL 56 rfl) rfl rfl rfl h ?_
      clear h; intro h
      refine g_iconst (v := (1 : Int32)) C dX3_forget_40 (by decide) ?_
      replace h := bs_some h
      obtain ⟨s28, h1, h⟩ := h
      refine g_cS (As := [.ref (ad (57 + 1 * v1.toNatClampNeg)), .int (1 : Int32)]) (rest := []) (stk2 := []) C mf_J7_fill_53178 lk_X3_60 sm_J7_fill_53178 dX3_forget_41 rfl rfl rfl ⟨Nat.le_of_ble_eq_true rfl, Nat.le_of_ble_eq_true rfl⟩ (Nat.le_of_ble_eq_true rfl) ⟨Nat.le_refl 0, Nat.le_refl 0⟩ (ct_J7_fill_53178 (hL _ (prG_Fl hb27)) h1) ?_
      refine g_aload_n C dX3_forget_44 rfl 0 rfl ?_
      refine g_getR (k2 := 59) C ok3 dX3_forget_45 (hL 32 rfl) rfl 5 (by decide) lk_X3_22 rfl rfl ?_
      refine g_iload_n C dX3_forget_48 rfl 1 rfl ?_
      have hb29 := (ck_some h).1
      refine g_aaldI C dX3_forget_49 (hL 59 rfl) rfl rfl rfl h ?_
      clear h; intro h
      refine g_iconst (v := (-1 : Int32)) C dX3_forget_50 (by decide) ?_
      replace h := bs_some h
      obtain ⟨s30, h1, h⟩ := h
      refine g_cS (As := [.ref (ad (60 + 1 * v1.toNatClampNeg)), .int (-1 : Int32)]) (rest := []) (stk2 := []) C mf_J7_fill_53178 lk_X3_60 sm_J7_fill_53178 dX3_forget_51 rfl rfl rfl ⟨Nat.le_of_ble_eq_true rfl, Nat.le_of_ble_eq_true rfl⟩ (Nat.le_of_ble_eq_true rfl) ⟨Nat.le_refl 0, Nat.le_refl 0⟩ (ct_J7_fill_53178 (hL _ (prG_La hb29)) h1) ?_
      refine g_iinc (lv' := fun y => [(1, .int y), (0, .ref (ad 32))]) C dX3_forget_54 1 rfl rfl (by decide) (fun y => rfl) h ?_
      clear h; intro v31 h
      refine g_goto (tgt := 29) C dX3_forget_57 (by decide) ?_
      refine g_sub (lv2 := [(0, .ref (ad 32)), (1, .int v31)]) [1, 0] rfl ?_
      exact ih _ _ h
set_option maxHeartbeats 4000000 in
set_option maxRecDepth 100000 in
theorem ct_X3_forget {N : Nat} (hL : ∀ k, prG k = true → k ∈ L) {st st' : St} (h : F_X3_forget N st = some st') : Ct l D cy ad A L yX3_forget cX3_forget 2 none 2 [.ref (ad 32)] st none st' := by
  unfold F_X3_forget at h
  refine ct_of (own := RX3) (by decide) rfl (Nat.le_of_ble_eq_true rfl) ?_
  intro p e s m args below meth c C hr hlk
  refine g_sub (lv2 := [(0, .ref (ad 32))]) [0] rfl ?_
  refine g_iconst (v := (0 : Int32)) C dX3_forget_0 (by decide) ?_
  refine g_istore_n (lv' := fun y => [(1, .int y), (0, .ref (ad 32))]) C dX3_forget_1 rfl (by decide) (fun y => rfl) h ?_
  clear h; intro v21 h
  refine g_sub (lv2 := [(0, .ref (ad 32)), (1, .int v21)]) [1, 0] rfl ?_
  refine wlp_X3_forget_2 (N := N) C hr hlk hL ?_ _ _ _ h
  · intro s25 h
    refine g_iconst (v := (0 : Int32)) C dX3_forget_27 (by decide) ?_
    refine g_istore_n (lv' := fun y => [(1, .int y), (0, .ref (ad 32))]) C dX3_forget_28 rfl (by decide) (fun y => rfl) h ?_
    clear h; intro v26 h
    refine g_sub (lv2 := [(0, .ref (ad 32)), (1, .int v26)]) [1, 0] rfl ?_
    refine wlp_X3_forget_29 (N := N) C hr hlk hL  _ _ _ h
-- X7_isVariable
def F_X7_isVariable (v0 : Int32) : Option (Int32) :=
  lt (some (0 : Int32)) (fun (j21 : Option (Int32)) => (if v0 < 0 then j21 else (if (7 : Int32) ≤ v0 then j21 else some (1 : Int32))))
set_option maxHeartbeats 4000000 in
set_option maxRecDepth 100000 in
theorem ct_X7_isVariable (hL : ∀ k, prF k = true → k ∈ L) {v0 : Int32} {st : St} {r' : Int32} (h : F_X7_isVariable v0 = some r') : Ct l D cy ad A L yX7_isVariable cX7_isVariable 1 (some .boolean) 1 [.int v0] st (some (.int r')) st := by
  unfold F_X7_isVariable at h
  refine ct_of (own := RX7) (by decide) rfl (Nat.le_of_ble_eq_true rfl) ?_
  intro p e s m args below meth c C hr hlk
  refine g_sub (lv2 := [(0, .int v0)]) [0] rfl ?_
  refine g_iload_n C dX7_isVariable_0 rfl 0 rfl ?_
  replace h := lt_ex h
  obtain ⟨j21, ej21, h⟩ := h
  have hj21 : j21 = some r' → Gm p l e (rmD 1) s m args below meth c D cy ad A L 1 0 0 (MQ below (QG D cy ad A L (some (.int r')) st) args s 0 0 A) 14 [] [] st := by
    intro h
    rw [ej21] at h
    skip
    refine g_iconst (v := (0 : Int32)) C dX7_isVariable_14 (by decide) ?_
    exact g_zretLP C hr hlk rfl dX7_isVariable_15 h
  refine g_if_lt (tgt := 14) C dX7_isVariable_1 (by decide) h ?_ ?_
  · clear h; intro hc1 h
    refine g_sub (lv2 := []) [] rfl ?_
    exact hj21  h
  · clear h; intro hc1 h
    refine g_iload_n C dX7_isVariable_4 rfl 0 rfl ?_
    refine g_bipush (v := (7 : Int32)) C dX7_isVariable_5 (by decide) ?_
    refine g_icmp_ge (tgt := 14) C dX7_isVariable_7 (by decide) h ?_ ?_
    · clear h; intro hc7 h
      refine g_sub (lv2 := []) [] rfl ?_
      exact hj21  h
    · clear h; intro hc7 h
      refine g_iconst (v := (1 : Int32)) C dX7_isVariable_10 (by decide) ?_
      refine g_goto (tgt := 15) C dX7_isVariable_11 (by decide) ?_
      exact g_zretLP C hr hlk rfl dX7_isVariable_15 h
-- X5_append
def F_X5_append (v1 : Int32) (v2 : Int32) (v3 : Int32) (v4 : Int32) (st : St) : Option (St) :=
  ck (inb (st 1 0) 10) (lt (up st 2 (st 1 0).toNatClampNeg v1) (fun (s21 : St) => ck (inb (s21 1 0) 10) (lt (up s21 3 (s21 1 0).toNatClampNeg v2) (fun (s22 : St) => ck (inb (s22 1 0) 10) (lt (up s22 4 (s22 1 0).toNatClampNeg v3) (fun (s23 : St) => ck (inb (s23 1 0) 10) (lt (up s23 5 (s23 1 0).toNatClampNeg v4) (fun (s24 : St) => lt (up s24 1 0 ((s24 1 0) + (1 : Int32))) (fun (s25 : St) => some s25)))))))))
set_option maxHeartbeats 4000000 in
set_option maxRecDepth 100000 in
theorem ct_X5_append (hL : ∀ k, prF k = true → k ∈ L) {v1 : Int32} {v2 : Int32} {v3 : Int32} {v4 : Int32} {st st' : St} (h : F_X5_append v1 v2 v3 v4 st = some st') : Ct l D cy ad A L yX5_append cX5_append 5 none 1 [.ref (ad 1), .int v1, .int v2, .int v3, .int v4] st none st' := by
  unfold F_X5_append at h
  refine ct_of (own := RX5) (by decide) rfl (Nat.le_of_ble_eq_true rfl) ?_
  intro p e s m args below meth c C hr hlk
  refine g_sub (lv2 := [(0, .ref (ad 1)), (1, .int v1), (2, .int v2), (3, .int v3), (4, .int v4)]) [0, 1, 2, 3, 4] rfl ?_
  refine g_aload_n C dX5_append_0 rfl 0 rfl ?_
  refine g_getR (k2 := 2) C ok5 dX5_append_1 (hL 1 rfl) rfl 1 (by decide) lk_X5_9 rfl rfl ?_
  refine g_aload_n C dX5_append_4 rfl 0 rfl ?_
  refine g_getI C ok5 dX5_append_5 (hL 1 rfl) rfl 0 (by decide) lk_X5_34 rfl ?_
  refine g_iload_n C dX5_append_8 rfl 1 rfl ?_
  refine g_iast C dX5_append_9 (hL 2 rfl) rfl rfl h ?_
  clear h; intro s21 h
  refine g_aload_n C dX5_append_10 rfl 0 rfl ?_
  refine g_getR (k2 := 3) C ok5 dX5_append_11 (hL 1 rfl) rfl 2 (by decide) lk_X5_15 rfl rfl ?_
  refine g_aload_n C dX5_append_14 rfl 0 rfl ?_
  refine g_getI C ok5 dX5_append_15 (hL 1 rfl) rfl 0 (by decide) lk_X5_34 rfl ?_
  refine g_iload_n C dX5_append_18 rfl 2 rfl ?_
  refine g_iast C dX5_append_19 (hL 3 rfl) rfl rfl h ?_
  clear h; intro s22 h
  refine g_aload_n C dX5_append_20 rfl 0 rfl ?_
  refine g_getR (k2 := 4) C ok5 dX5_append_21 (hL 1 rfl) rfl 3 (by decide) lk_X5_18 rfl rfl ?_
  refine g_aload_n C dX5_append_24 rfl 0 rfl ?_
  refine g_getI C ok5 dX5_append_25 (hL 1 rfl) rfl 0 (by decide) lk_X5_34 rfl ?_
  refine g_iload_n C dX5_append_28 rfl 3 rfl ?_
  refine g_iast C dX5_append_29 (hL 4 rfl) rfl rfl h ?_
  clear h; intro s23 h
  refine g_aload_n C dX5_append_30 rfl 0 rfl ?_
  refine g_getR (k2 := 5) C ok5 dX5_append_31 (hL 1 rfl) rfl 4 (by decide) lk_X5_21 rfl rfl ?_
  refine g_aload_n C dX5_append_34 rfl 0 rfl ?_
  refine g_getI C ok5 dX5_append_35 (hL 1 rfl) rfl 0 (by decide) lk_X5_34 rfl ?_
  refine g_iload C dX5_append_38 4 rfl ?_
  refine g_iast C dX5_append_40 (hL 5 rfl) rfl rfl h ?_
  clear h; intro s24 h
  refine g_aload_n C dX5_append_41 rfl 0 rfl ?_
  refine g_dup C dX5_append_42 rfl ?_
  refine g_getI C ok5 dX5_append_43 (hL 1 rfl) rfl 0 (by decide) lk_X5_34 rfl ?_
  refine g_iconst (v := (1 : Int32)) C dX5_append_46 (by decide) ?_
  refine g_iadd C dX5_append_47 ?_
  refine g_put (ty := .int) C ok5 dX5_append_48 (hL 1 rfl) rfl 0 (by decide) lk_X5_34 rfl (tyX5_ok 0 (by decide)) rfl rfl rfl h ?_
  clear h; intro s25 h
  exact g_vret C hr hlk dX5_append_51 h
-- X7_changed
def F_X7_changed (N : Nat) (st : St) : Option (St) :=
  bs (F_X6_measure N st) (fun (s21 : St) => bs (F_X3_forget N s21) (fun (s22 : St) => some s22))
set_option maxHeartbeats 4000000 in
set_option maxRecDepth 100000 in
theorem ct_X7_changed {N : Nat} (hL : ∀ k, prF k = true → k ∈ L) {st st' : St} (h : F_X7_changed N st = some st') : Ct l D cy ad A L yX7_changed cX7_changed 1 none 3 [.ref (ad 0)] st none st' := by
  unfold F_X7_changed at h
  refine ct_of (own := RX7) (by decide) rfl (Nat.le_of_ble_eq_true rfl) ?_
  intro p e s m args below meth c C hr hlk
  refine g_sub (lv2 := [(0, .ref (ad 0))]) [0] rfl ?_
  refine g_aload_n C dX7_changed_0 rfl 0 rfl ?_
  refine g_getR (k2 := 25) C ok7 dX7_changed_1 (hL 0 rfl) rfl 4 (by decide) lk_X7_30 rfl rfl ?_
  refine g_aload_n C dX7_changed_4 rfl 0 rfl ?_
  refine g_getR (k2 := 1) C ok7 dX7_changed_5 (hL 0 rfl) rfl 0 (by decide) lk_X7_12 rfl rfl ?_
  replace h := bs_some h
  obtain ⟨s21, h1, h⟩ := h
  refine g_cV (As := [.ref (ad 1)]) (rest := []) (stk2 := []) C mf_X6_measure ok6 rfl lk_X7_34 in_X6_measure se_X6_measure dX7_changed_8 (hL 25 rfl) rfl rfl rfl rfl ⟨Nat.le_of_ble_eq_true rfl, Nat.le_of_ble_eq_true rfl⟩ (Nat.le_of_ble_eq_true rfl) ⟨Nat.le_refl 0, Nat.le_refl 0⟩ (ct_X6_measure (fun k hk => hL k (prM_F hk)) h1) ?_
  refine g_aload_n C dX7_changed_11 rfl 0 rfl ?_
  refine g_getR (k2 := 32) C ok7 dX7_changed_12 (hL 0 rfl) rfl 5 (by decide) lk_X7_43 rfl rfl ?_
  replace h := bs_some h
  obtain ⟨s22, h1, h⟩ := h
  refine g_cV (As := []) (rest := []) (stk2 := []) C mf_X3_forget ok3 rfl lk_X7_198 in_X3_forget se_X3_forget dX7_changed_15 (hL 32 rfl) rfl rfl rfl rfl ⟨Nat.le_of_ble_eq_true rfl, Nat.le_of_ble_eq_true rfl⟩ (Nat.le_of_ble_eq_true rfl) ⟨Nat.le_refl 0, Nat.le_refl 0⟩ (ct_X3_forget (fun k hk => hL k (prG_F hk)) h1) ?_
  exact g_vret C hr hlk dX7_changed_18 h
-- X7_put
def F_X7_put (N : Nat) (v1 : Int32) (v2 : Int32) (v3 : Int32) (v4 : Int32) (st : St) : Option (Int32 × St) :=
  (if v1 < 0 then some ((-2 : Int32), st) else (if v1 ≤ (4 : Int32) then bs (F_X7_isVariable v2) (fun (r21 : Int32) => (if r21 = 0 then some ((-1 : Int32), st) else bs (F_X7_isVariable v3) (fun (r22 : Int32) => (if r22 = 0 then some ((-1 : Int32), st) else lt ((if (st 1 0) < (10 : Int32) then lt (fun (x24 : Int32) => bs (F_X5_append v1 v2 v3 x24 st) (fun (s26 : St) => bs (F_X7_changed N s26) (fun (s27 : St) => some (((s27 1 0) - (1 : Int32)), s27)))) (fun (j25 : Int32 → Option (Int32 × St)) => (if v1 = 0 then j25 v3 else j25 v4)) else some ((-4 : Int32), st))) (fun (j23 : Option (Int32 × St)) => (if v1 = 0 then j23 else bs (F_X7_isVariable v4) (fun (r28 : Int32) => (if r28 = 0 then some ((-1 : Int32), st) else j23)))))))) else some ((-2 : Int32), st)))
set_option maxHeartbeats 4000000 in
set_option maxRecDepth 100000 in
theorem ct_X7_put {N : Nat} (hL : ∀ k, prF k = true → k ∈ L) {v1 : Int32} {v2 : Int32} {v3 : Int32} {v4 : Int32} {st st' : St} {r' : Int32} (h : F_X7_put N v1 v2 v3 v4 st = some (r', st')) : Ct l D cy ad A L yX7_put cX7_put 5 (some .int) 4 [.ref (ad 0), .int v1, .int v2, .int v3, .int v4] st (some (.int r')) st' := by
  unfold F_X7_put at h
  refine ct_of (own := RX7) (by decide) rfl (Nat.le_of_ble_eq_true rfl) ?_
  intro p e s m args below meth c C hr hlk
  refine g_sub (lv2 := [(0, .ref (ad 0)), (1, .int v1), (2, .int v2), (3, .int v3), (4, .int v4)]) [0, 1, 2, 3, 4] rfl ?_
  refine g_iload_n C dX7_put_0 rfl 1 rfl ?_
  refine g_if_lt (tgt := 9) C dX7_put_1 (by decide) h ?_ ?_
  · clear h; intro hc1 h
    refine g_bipush (v := (-2 : Int32)) C dX7_put_9 (by decide) ?_
    exact g_iret C hr hlk dX7_put_11 h
  · clear h; intro hc1 h
    refine g_iload_n C dX7_put_4 rfl 1 rfl ?_
    refine g_iconst (v := (4 : Int32)) C dX7_put_5 (by decide) ?_
    refine g_icmp_le (tgt := 12) C dX7_put_6 (by decide) h ?_ ?_
    · clear h; intro hc6 h
      refine g_iload_n C dX7_put_12 rfl 2 rfl ?_
      replace h := bs_some h
      obtain ⟨r21, h1, h⟩ := h
      refine g_cS (As := [.int v2]) (rest := []) (stk2 := [.int r21]) C mf_X7_isVariable lk_X7_54 sm_X7_isVariable dX7_put_13 rfl rfl rfl ⟨Nat.le_of_ble_eq_true rfl, Nat.le_of_ble_eq_true rfl⟩ (Nat.le_of_ble_eq_true rfl) ⟨Nat.le_refl 0, Nat.le_refl 0⟩ (ct_X7_isVariable hL h1) ?_
      refine g_if_eq (tgt := 38) C dX7_put_16 (by decide) h ?_ ?_
      · clear h; intro hc16 h
        refine g_iconst (v := (-1 : Int32)) C dX7_put_38 (by decide) ?_
        exact g_iret C hr hlk dX7_put_39 h
      · clear h; intro hc16 h
        refine g_iload_n C dX7_put_19 rfl 3 rfl ?_
        replace h := bs_some h
        obtain ⟨r22, h1, h⟩ := h
        refine g_cS (As := [.int v3]) (rest := []) (stk2 := [.int r22]) C mf_X7_isVariable lk_X7_54 sm_X7_isVariable dX7_put_20 rfl rfl rfl ⟨Nat.le_of_ble_eq_true rfl, Nat.le_of_ble_eq_true rfl⟩ (Nat.le_of_ble_eq_true rfl) ⟨Nat.le_refl 0, Nat.le_refl 0⟩ (ct_X7_isVariable hL h1) ?_
        refine g_if_eq (tgt := 38) C dX7_put_23 (by decide) h ?_ ?_
        · clear h; intro hc23 h
          refine g_iconst (v := (-1 : Int32)) C dX7_put_38 (by decide) ?_
          exact g_iret C hr hlk dX7_put_39 h
        · clear h; intro hc23 h
          refine g_iload_n C dX7_put_26 rfl 1 rfl ?_
          replace h := lt_ex h
          obtain ⟨j23, ej23, h⟩ := h
          have hj23 : j23 = some (r', st') → Gm p l e (rmD 4) s m args below meth c D cy ad A L 5 0 0 (MQ below (QG D cy ad A L (some (.int r')) st') args s 0 0 A) 40 [(0, .ref (ad 0)), (1, .int v1), (2, .int v2), (3, .int v3), (4, .int v4)] [] st := by
            intro h
            rw [ej23] at h
            skip
            refine g_aload_n C dX7_put_40 rfl 0 rfl ?_
            refine g_getR (k2 := 1) C ok7 dX7_put_41 (hL 0 rfl) rfl 0 (by decide) lk_X7_12 rfl rfl ?_
            refine g_getI C ok5 dX7_put_44 (hL 1 rfl) rfl 0 (by decide) lk_X7_58 rfl ?_
            refine g_bipush (v := (10 : Int32)) C dX7_put_47 (by decide) ?_
            refine g_icmp_lt (tgt := 55) C dX7_put_49 (by decide) h ?_ ?_
            · clear h; intro hc49 h
              refine g_aload_n C dX7_put_55 rfl 0 rfl ?_
              refine g_getR (k2 := 1) C ok7 dX7_put_56 (hL 0 rfl) rfl 0 (by decide) lk_X7_12 rfl rfl ?_
              refine g_iload_n C dX7_put_59 rfl 1 rfl ?_
              refine g_iload_n C dX7_put_60 rfl 2 rfl ?_
              refine g_iload_n C dX7_put_61 rfl 3 rfl ?_
              refine g_iload_n C dX7_put_62 rfl 1 rfl ?_
              replace h := lt_ex h
              obtain ⟨j25, ej25, h⟩ := h
              have hj25 : ∀ (x24 : Int32), j25 x24 = some (r', st') → Gm p l e (rmD 4) s m args below meth c D cy ad A L 5 0 0 (MQ below (QG D cy ad A L (some (.int r')) st') args s 0 0 A) 72 [(0, .ref (ad 0))] [.int x24, .int v3, .int v2, .int v1, .ref (ad 1)] st := by
                intro x24 h
                rw [ej25] at h
                dsimp only at h
                replace h := bs_some h
                obtain ⟨s26, h1, h⟩ := h
                refine g_cV (As := [.int v1, .int v2, .int v3, .int x24]) (rest := []) (stk2 := []) C mf_X5_append ok5 rfl lk_X7_62 in_X5_append se_X5_append dX7_put_72 (hL 1 rfl) rfl rfl rfl rfl ⟨Nat.le_of_ble_eq_true rfl, Nat.le_of_ble_eq_true rfl⟩ (Nat.le_of_ble_eq_true rfl) ⟨Nat.le_refl 0, Nat.le_refl 0⟩ (ct_X5_append hL h1) ?_
                refine g_aload_n C dX7_put_75 rfl 0 rfl ?_
                replace h := bs_some h
                obtain ⟨s27, h1, h⟩ := h
                refine g_cV (As := []) (rest := []) (stk2 := []) C mf_X7_changed ok7 rfl lk_X7_66 in_X7_changed se_X7_changed dX7_put_76 (hL 0 rfl) rfl rfl rfl rfl ⟨Nat.le_of_ble_eq_true rfl, Nat.le_of_ble_eq_true rfl⟩ (Nat.le_of_ble_eq_true rfl) ⟨Nat.le_refl 0, Nat.le_refl 0⟩ (ct_X7_changed hL h1) ?_
                refine g_aload_n C dX7_put_79 rfl 0 rfl ?_
                refine g_getR (k2 := 1) C ok7 dX7_put_80 (hL 0 rfl) rfl 0 (by decide) lk_X7_12 rfl rfl ?_
                refine g_getI C ok5 dX7_put_83 (hL 1 rfl) rfl 0 (by decide) lk_X7_58 rfl ?_
                refine g_iconst (v := (1 : Int32)) C dX7_put_86 (by decide) ?_
                refine g_isub C dX7_put_87 ?_
                exact g_iret C hr hlk dX7_put_88 h
              refine g_if_ne (tgt := 70) C dX7_put_63 (by decide) h ?_ ?_
              · clear h; intro hc63 h
                refine g_iload C dX7_put_70 4 rfl ?_
                refine g_sub (lv2 := [(0, .ref (ad 0))]) [0] rfl ?_
                exact hj25 _ h
              · clear h; intro hc63 h
                refine g_iload_n C dX7_put_66 rfl 3 rfl ?_
                refine g_goto (tgt := 72) C dX7_put_67 (by decide) ?_
                refine g_sub (lv2 := [(0, .ref (ad 0))]) [0] rfl ?_
                exact hj25 _ h
            · clear h; intro hc49 h
              refine g_bipush (v := (-4 : Int32)) C dX7_put_52 (by decide) ?_
              exact g_iret C hr hlk dX7_put_54 h
          refine g_if_eq (tgt := 40) C dX7_put_27 (by decide) h ?_ ?_
          · clear h; intro hc27 h
            refine g_sub (lv2 := [(0, .ref (ad 0)), (1, .int v1), (2, .int v2), (3, .int v3), (4, .int v4)]) [0, 1, 2, 3, 4] rfl ?_
            exact hj23  h
          · clear h; intro hc27 h
            refine g_iload C dX7_put_30 4 rfl ?_
            replace h := bs_some h
            obtain ⟨r28, h1, h⟩ := h
            refine g_cS (As := [.int v4]) (rest := []) (stk2 := [.int r28]) C mf_X7_isVariable lk_X7_54 sm_X7_isVariable dX7_put_32 rfl rfl rfl ⟨Nat.le_of_ble_eq_true rfl, Nat.le_of_ble_eq_true rfl⟩ (Nat.le_of_ble_eq_true rfl) ⟨Nat.le_refl 0, Nat.le_refl 0⟩ (ct_X7_isVariable hL h1) ?_
            refine g_if_ne (tgt := 40) C dX7_put_35 (by decide) h ?_ ?_
            · clear h; intro hc35 h
              refine g_sub (lv2 := [(0, .ref (ad 0)), (1, .int v1), (2, .int v2), (3, .int v3), (4, .int v4)]) [0, 1, 2, 3, 4] rfl ?_
              exact hj23  h
            · clear h; intro hc35 h
              refine g_iconst (v := (-1 : Int32)) C dX7_put_38 (by decide) ?_
              exact g_iret C hr hlk dX7_put_39 h
    · clear h; intro hc6 h
      refine g_bipush (v := (-2 : Int32)) C dX7_put_9 (by decide) ?_
      exact g_iret C hr hlk dX7_put_11 h
-- X5_has
def F_X5_has (v1 : Int32) (st : St) : Option (Int32) :=
  lt (some (0 : Int32)) (fun (j21 : Option (Int32)) => (if v1 < 0 then j21 else (if (st 1 0) ≤ v1 then j21 else some (1 : Int32))))
set_option maxHeartbeats 4000000 in
set_option maxRecDepth 100000 in
theorem ct_X5_has (hL : ∀ k, prF k = true → k ∈ L) {v1 : Int32} {st : St} {r' : Int32} (h : F_X5_has v1 st = some r') : Ct l D cy ad A L yX5_has cX5_has 2 (some .boolean) 1 [.ref (ad 1), .int v1] st (some (.int r')) st := by
  unfold F_X5_has at h
  refine ct_of (own := RX5) (by decide) rfl (Nat.le_of_ble_eq_true rfl) ?_
  intro p e s m args below meth c C hr hlk
  refine g_sub (lv2 := [(0, .ref (ad 1)), (1, .int v1)]) [0, 1] rfl ?_
  refine g_iload_n C dX5_has_0 rfl 1 rfl ?_
  replace h := lt_ex h
  obtain ⟨j21, ej21, h⟩ := h
  have hj21 : j21 = some r' → Gm p l e (rmD 1) s m args below meth c D cy ad A L 2 0 0 (MQ below (QG D cy ad A L (some (.int r')) st) args s 0 0 A) 16 [] [] st := by
    intro h
    rw [ej21] at h
    skip
    refine g_iconst (v := (0 : Int32)) C dX5_has_16 (by decide) ?_
    exact g_zretLP C hr hlk rfl dX5_has_17 h
  refine g_if_lt (tgt := 16) C dX5_has_1 (by decide) h ?_ ?_
  · clear h; intro hc1 h
    refine g_sub (lv2 := []) [] rfl ?_
    exact hj21  h
  · clear h; intro hc1 h
    refine g_iload_n C dX5_has_4 rfl 1 rfl ?_
    refine g_aload_n C dX5_has_5 rfl 0 rfl ?_
    refine g_getI C ok5 dX5_has_6 (hL 1 rfl) rfl 0 (by decide) lk_X5_34 rfl ?_
    refine g_icmp_ge (tgt := 16) C dX5_has_9 (by decide) h ?_ ?_
    · clear h; intro hc9 h
      refine g_sub (lv2 := []) [] rfl ?_
      exact hj21  h
    · clear h; intro hc9 h
      refine g_iconst (v := (1 : Int32)) C dX5_has_12 (by decide) ?_
      refine g_goto (tgt := 17) C dX5_has_13 (by decide) ?_
      exact g_zretLP C hr hlk rfl dX5_has_17 h
-- X5_remove
def F_X5_remove (v1 : Int32) (st : St) : Option (St) :=
  lt (up st 1 0 ((st 1 0) - (1 : Int32))) (fun (s21 : St) => lt ((s21 1 0) - v1) (fun (v22 : Int32) => ck (decide (0 ≤ (v1 + (1 : Int32)) ∧ 0 ≤ v1 ∧ 0 ≤ v22 ∧ (v1 + (1 : Int32)).toNatClampNeg + v22.toNatClampNeg ≤ 10 ∧ v1.toNatClampNeg + v22.toNatClampNeg ≤ 10)) (lt (upr s21 2 (va_cpy (s21 2) (s21 2) (v1 + (1 : Int32)).toNatClampNeg v1.toNatClampNeg v22.toNatClampNeg)) (fun (s23 : St) => ck (decide (0 ≤ (v1 + (1 : Int32)) ∧ 0 ≤ v1 ∧ 0 ≤ v22 ∧ (v1 + (1 : Int32)).toNatClampNeg + v22.toNatClampNeg ≤ 10 ∧ v1.toNatClampNeg + v22.toNatClampNeg ≤ 10)) (lt (upr s23 3 (va_cpy (s23 3) (s23 3) (v1 + (1 : Int32)).toNatClampNeg v1.toNatClampNeg v22.toNatClampNeg)) (fun (s24 : St) => ck (decide (0 ≤ (v1 + (1 : Int32)) ∧ 0 ≤ v1 ∧ 0 ≤ v22 ∧ (v1 + (1 : Int32)).toNatClampNeg + v22.toNatClampNeg ≤ 10 ∧ v1.toNatClampNeg + v22.toNatClampNeg ≤ 10)) (lt (upr s24 4 (va_cpy (s24 4) (s24 4) (v1 + (1 : Int32)).toNatClampNeg v1.toNatClampNeg v22.toNatClampNeg)) (fun (s25 : St) => ck (decide (0 ≤ (v1 + (1 : Int32)) ∧ 0 ≤ v1 ∧ 0 ≤ v22 ∧ (v1 + (1 : Int32)).toNatClampNeg + v22.toNatClampNeg ≤ 10 ∧ v1.toNatClampNeg + v22.toNatClampNeg ≤ 10)) (lt (upr s25 5 (va_cpy (s25 5) (s25 5) (v1 + (1 : Int32)).toNatClampNeg v1.toNatClampNeg v22.toNatClampNeg)) (fun (s26 : St) => some s26))))))))))
set_option maxHeartbeats 4000000 in
set_option maxRecDepth 100000 in
theorem ct_X5_remove (hL : ∀ k, prF k = true → k ∈ L) {v1 : Int32} {st st' : St} (h : F_X5_remove v1 st = some st') : Ct l D cy ad A L yX5_remove cX5_remove 3 none 2 [.ref (ad 1), .int v1] st none st' := by
  unfold F_X5_remove at h
  refine ct_of (own := RX5) (by decide) rfl (Nat.le_of_ble_eq_true rfl) ?_
  intro p e s m args below meth c C hr hlk
  refine g_sub (lv2 := [(0, .ref (ad 1)), (1, .int v1)]) [0, 1] rfl ?_
  refine g_aload_n C dX5_remove_0 rfl 0 rfl ?_
  refine g_dup C dX5_remove_1 rfl ?_
  refine g_getI C ok5 dX5_remove_2 (hL 1 rfl) rfl 0 (by decide) lk_X5_34 rfl ?_
  refine g_iconst (v := (1 : Int32)) C dX5_remove_5 (by decide) ?_
  refine g_isub C dX5_remove_6 ?_
  refine g_put (ty := .int) C ok5 dX5_remove_7 (hL 1 rfl) rfl 0 (by decide) lk_X5_34 rfl (tyX5_ok 0 (by decide)) rfl rfl rfl h ?_
  clear h; intro s21 h
  refine g_aload_n C dX5_remove_10 rfl 0 rfl ?_
  refine g_getI C ok5 dX5_remove_11 (hL 1 rfl) rfl 0 (by decide) lk_X5_34 rfl ?_
  refine g_iload_n C dX5_remove_14 rfl 1 rfl ?_
  refine g_isub C dX5_remove_15 ?_
  refine g_istore_n (lv' := fun y => [(2, .int y), (0, .ref (ad 1)), (1, .int v1)]) C dX5_remove_16 rfl (by decide) (fun y => rfl) h ?_
  clear h; intro v22 h
  refine g_aload_n C dX5_remove_17 rfl 1 rfl ?_
  refine g_getR (k2 := 2) C ok5 dX5_remove_18 (hL 1 rfl) rfl 1 (by decide) lk_X5_9 rfl rfl ?_
  refine g_iload_n C dX5_remove_21 rfl 2 rfl ?_
  refine g_iconst (v := (1 : Int32)) C dX5_remove_22 (by decide) ?_
  refine g_iadd C dX5_remove_23 ?_
  refine g_aload_n C dX5_remove_24 rfl 1 rfl ?_
  refine g_getR (k2 := 2) C ok5 dX5_remove_25 (hL 1 rfl) rfl 1 (by decide) lk_X5_9 rfl rfl ?_
  refine g_iload_n C dX5_remove_28 rfl 2 rfl ?_
  refine g_iload_n C dX5_remove_29 rfl 0 rfl ?_
  refine g_copy C lk_X5_37 nat_copy sm_copy ini_System (hL 2 rfl) rfl rfl (hL 2 rfl) rfl rfl ⟨Nat.le_of_ble_eq_true rfl, Nat.le_of_ble_eq_true rfl⟩ dX5_remove_30 h ?_
  clear h; intro s23 h
  refine g_aload_n C dX5_remove_33 rfl 1 rfl ?_
  refine g_getR (k2 := 3) C ok5 dX5_remove_34 (hL 1 rfl) rfl 2 (by decide) lk_X5_15 rfl rfl ?_
  refine g_iload_n C dX5_remove_37 rfl 2 rfl ?_
  refine g_iconst (v := (1 : Int32)) C dX5_remove_38 (by decide) ?_
  refine g_iadd C dX5_remove_39 ?_
  refine g_aload_n C dX5_remove_40 rfl 1 rfl ?_
  refine g_getR (k2 := 3) C ok5 dX5_remove_41 (hL 1 rfl) rfl 2 (by decide) lk_X5_15 rfl rfl ?_
  refine g_iload_n C dX5_remove_44 rfl 2 rfl ?_
  refine g_iload_n C dX5_remove_45 rfl 0 rfl ?_
  refine g_copy C lk_X5_37 nat_copy sm_copy ini_System (hL 3 rfl) rfl rfl (hL 3 rfl) rfl rfl ⟨Nat.le_of_ble_eq_true rfl, Nat.le_of_ble_eq_true rfl⟩ dX5_remove_46 h ?_
  clear h; intro s24 h
  refine g_aload_n C dX5_remove_49 rfl 1 rfl ?_
  refine g_getR (k2 := 4) C ok5 dX5_remove_50 (hL 1 rfl) rfl 3 (by decide) lk_X5_18 rfl rfl ?_
  refine g_iload_n C dX5_remove_53 rfl 2 rfl ?_
  refine g_iconst (v := (1 : Int32)) C dX5_remove_54 (by decide) ?_
  refine g_iadd C dX5_remove_55 ?_
  refine g_aload_n C dX5_remove_56 rfl 1 rfl ?_
  refine g_getR (k2 := 4) C ok5 dX5_remove_57 (hL 1 rfl) rfl 3 (by decide) lk_X5_18 rfl rfl ?_
  refine g_iload_n C dX5_remove_60 rfl 2 rfl ?_
  refine g_iload_n C dX5_remove_61 rfl 0 rfl ?_
  refine g_copy C lk_X5_37 nat_copy sm_copy ini_System (hL 4 rfl) rfl rfl (hL 4 rfl) rfl rfl ⟨Nat.le_of_ble_eq_true rfl, Nat.le_of_ble_eq_true rfl⟩ dX5_remove_62 h ?_
  clear h; intro s25 h
  refine g_aload_n C dX5_remove_65 rfl 1 rfl ?_
  refine g_getR (k2 := 5) C ok5 dX5_remove_66 (hL 1 rfl) rfl 4 (by decide) lk_X5_21 rfl rfl ?_
  refine g_iload_n C dX5_remove_69 rfl 2 rfl ?_
  refine g_iconst (v := (1 : Int32)) C dX5_remove_70 (by decide) ?_
  refine g_iadd C dX5_remove_71 ?_
  refine g_aload_n C dX5_remove_72 rfl 1 rfl ?_
  refine g_getR (k2 := 5) C ok5 dX5_remove_73 (hL 1 rfl) rfl 4 (by decide) lk_X5_21 rfl rfl ?_
  refine g_iload_n C dX5_remove_76 rfl 2 rfl ?_
  refine g_iload_n C dX5_remove_77 rfl 0 rfl ?_
  refine g_copy C lk_X5_37 nat_copy sm_copy ini_System (hL 5 rfl) rfl rfl (hL 5 rfl) rfl rfl ⟨Nat.le_of_ble_eq_true rfl, Nat.le_of_ble_eq_true rfl⟩ dX5_remove_78 h ?_
  clear h; intro s26 h
  exact g_vret C hr hlk dX5_remove_81 h
-- X7_drop
def F_X7_drop (N : Nat) (v1 : Int32) (st : St) : Option (Int32 × St) :=
  bs (F_X5_has v1 st) (fun (r21 : Int32) => (if r21 = 0 then some ((-1 : Int32), st) else bs (F_X5_remove v1 st) (fun (s22 : St) => bs (F_X7_changed N s22) (fun (s23 : St) => some ((s23 1 0), s23)))))
set_option maxHeartbeats 4000000 in
set_option maxRecDepth 100000 in
theorem ct_X7_drop {N : Nat} (hL : ∀ k, prF k = true → k ∈ L) {v1 : Int32} {st st' : St} {r' : Int32} (h : F_X7_drop N v1 st = some (r', st')) : Ct l D cy ad A L yX7_drop cX7_drop 2 (some .int) 4 [.ref (ad 0), .int v1] st (some (.int r')) st' := by
  unfold F_X7_drop at h
  refine ct_of (own := RX7) (by decide) rfl (Nat.le_of_ble_eq_true rfl) ?_
  intro p e s m args below meth c C hr hlk
  refine g_sub (lv2 := [(0, .ref (ad 0)), (1, .int v1)]) [0, 1] rfl ?_
  refine g_aload_n C dX7_drop_0 rfl 0 rfl ?_
  refine g_getR (k2 := 1) C ok7 dX7_drop_1 (hL 0 rfl) rfl 0 (by decide) lk_X7_12 rfl rfl ?_
  refine g_iload_n C dX7_drop_4 rfl 1 rfl ?_
  replace h := bs_some h
  obtain ⟨r21, h1, h⟩ := h
  refine g_cV (As := [.int v1]) (rest := []) (stk2 := [.int r21]) C mf_X5_has ok5 rfl lk_X7_69 in_X5_has se_X5_has dX7_drop_5 (hL 1 rfl) rfl rfl rfl rfl ⟨Nat.le_of_ble_eq_true rfl, Nat.le_of_ble_eq_true rfl⟩ (Nat.le_of_ble_eq_true rfl) ⟨Nat.le_refl 0, Nat.le_refl 0⟩ (ct_X5_has hL h1) ?_
  refine g_if_ne (tgt := 13) C dX7_drop_8 (by decide) h ?_ ?_
  · clear h; intro hc8 h
    refine g_aload_n C dX7_drop_13 rfl 0 rfl ?_
    refine g_getR (k2 := 1) C ok7 dX7_drop_14 (hL 0 rfl) rfl 0 (by decide) lk_X7_12 rfl rfl ?_
    refine g_iload_n C dX7_drop_17 rfl 1 rfl ?_
    replace h := bs_some h
    obtain ⟨s22, h1, h⟩ := h
    refine g_cV (As := [.int v1]) (rest := []) (stk2 := []) C mf_X5_remove ok5 rfl lk_X7_72 in_X5_remove se_X5_remove dX7_drop_18 (hL 1 rfl) rfl rfl rfl rfl ⟨Nat.le_of_ble_eq_true rfl, Nat.le_of_ble_eq_true rfl⟩ (Nat.le_of_ble_eq_true rfl) ⟨Nat.le_refl 0, Nat.le_refl 0⟩ (ct_X5_remove hL h1) ?_
    refine g_aload_n C dX7_drop_21 rfl 0 rfl ?_
    replace h := bs_some h
    obtain ⟨s23, h1, h⟩ := h
    refine g_cV (As := []) (rest := []) (stk2 := []) C mf_X7_changed ok7 rfl lk_X7_66 in_X7_changed se_X7_changed dX7_drop_22 (hL 0 rfl) rfl rfl rfl rfl ⟨Nat.le_of_ble_eq_true rfl, Nat.le_of_ble_eq_true rfl⟩ (Nat.le_of_ble_eq_true rfl) ⟨Nat.le_refl 0, Nat.le_refl 0⟩ (ct_X7_changed hL h1) ?_
    refine g_aload_n C dX7_drop_25 rfl 0 rfl ?_
    refine g_getR (k2 := 1) C ok7 dX7_drop_26 (hL 0 rfl) rfl 0 (by decide) lk_X7_12 rfl rfl ?_
    refine g_getI C ok5 dX7_drop_29 (hL 1 rfl) rfl 0 (by decide) lk_X7_58 rfl ?_
    exact g_iret C hr hlk dX7_drop_32 h
  · clear h; intro hc8 h
    refine g_iconst (v := (-1 : Int32)) C dX7_drop_11 (by decide) ?_
    exact g_iret C hr hlk dX7_drop_12 h
-- X7_cross
def F_X7_cross (N : Nat) (v1 : Int32) (st : St) : Option (Int32 × St) :=
  bs (F_X5_has v1 st) (fun (r21 : Int32) => (if r21 = 0 then some ((-1 : Int32), st) else ck (inb v1 10) ((if (st 2 v1.toNatClampNeg) = 0 then some ((-5 : Int32), st) else ck (inb v1 10) (lt (st 4 v1.toNatClampNeg) (fun (v22 : Int32) => ck (inb v1 10) (ck (inb v1 10) (lt (up st 4 v1.toNatClampNeg (st 5 v1.toNatClampNeg)) (fun (s23 : St) => ck (inb v1 10) (lt (up s23 5 v1.toNatClampNeg v22) (fun (s24 : St) => bs (F_X7_changed N s24) (fun (s25 : St) => some (v1, s25)))))))))))))
set_option maxHeartbeats 4000000 in
set_option maxRecDepth 100000 in
theorem ct_X7_cross {N : Nat} (hL : ∀ k, prF k = true → k ∈ L) {v1 : Int32} {st st' : St} {r' : Int32} (h : F_X7_cross N v1 st = some (r', st')) : Ct l D cy ad A L yX7_cross cX7_cross 3 (some .int) 4 [.ref (ad 0), .int v1] st (some (.int r')) st' := by
  unfold F_X7_cross at h
  refine ct_of (own := RX7) (by decide) rfl (Nat.le_of_ble_eq_true rfl) ?_
  intro p e s m args below meth c C hr hlk
  refine g_sub (lv2 := [(0, .ref (ad 0)), (1, .int v1)]) [0, 1] rfl ?_
  refine g_aload_n C dX7_cross_0 rfl 0 rfl ?_
  refine g_getR (k2 := 1) C ok7 dX7_cross_1 (hL 0 rfl) rfl 0 (by decide) lk_X7_12 rfl rfl ?_
  refine g_iload_n C dX7_cross_4 rfl 1 rfl ?_
  replace h := bs_some h
  obtain ⟨r21, h1, h⟩ := h
  refine g_cV (As := [.int v1]) (rest := []) (stk2 := [.int r21]) C mf_X5_has ok5 rfl lk_X7_69 in_X5_has se_X5_has dX7_cross_5 (hL 1 rfl) rfl rfl rfl rfl ⟨Nat.le_of_ble_eq_true rfl, Nat.le_of_ble_eq_true rfl⟩ (Nat.le_of_ble_eq_true rfl) ⟨Nat.le_refl 0, Nat.le_refl 0⟩ (ct_X5_has hL h1) ?_
  refine g_if_ne (tgt := 13) C dX7_cross_8 (by decide) h ?_ ?_
  · clear h; intro hc8 h
    refine g_aload_n C dX7_cross_13 rfl 0 rfl ?_
    refine g_getR (k2 := 1) C ok7 dX7_cross_14 (hL 0 rfl) rfl 0 (by decide) lk_X7_12 rfl rfl ?_
    refine g_getR (k2 := 2) C ok5 dX7_cross_17 (hL 1 rfl) rfl 1 (by decide) lk_X7_76 rfl rfl ?_
    refine g_iload_n C dX7_cross_20 rfl 1 rfl ?_
    refine g_iald C dX7_cross_21 (hL 2 rfl) rfl rfl h ?_
    clear h; intro h
    refine g_if_ne (tgt := 28) C dX7_cross_22 (by decide) h ?_ ?_
    · clear h; intro hc22 h
      refine g_aload_n C dX7_cross_28 rfl 0 rfl ?_
      refine g_getR (k2 := 1) C ok7 dX7_cross_29 (hL 0 rfl) rfl 0 (by decide) lk_X7_12 rfl rfl ?_
      refine g_getR (k2 := 4) C ok5 dX7_cross_32 (hL 1 rfl) rfl 3 (by decide) lk_X7_80 rfl rfl ?_
      refine g_iload_n C dX7_cross_35 rfl 1 rfl ?_
      refine g_iald C dX7_cross_36 (hL 4 rfl) rfl rfl h ?_
      clear h; intro h
      refine g_istore_n (lv' := fun y => [(2, .int y), (0, .ref (ad 0)), (1, .int v1)]) C dX7_cross_37 rfl (by decide) (fun y => rfl) h ?_
      clear h; intro v22 h
      refine g_aload_n C dX7_cross_38 rfl 1 rfl ?_
      refine g_getR (k2 := 1) C ok7 dX7_cross_39 (hL 0 rfl) rfl 0 (by decide) lk_X7_12 rfl rfl ?_
      refine g_getR (k2 := 4) C ok5 dX7_cross_42 (hL 1 rfl) rfl 3 (by decide) lk_X7_80 rfl rfl ?_
      refine g_iload_n C dX7_cross_45 rfl 2 rfl ?_
      refine g_aload_n C dX7_cross_46 rfl 1 rfl ?_
      refine g_getR (k2 := 1) C ok7 dX7_cross_47 (hL 0 rfl) rfl 0 (by decide) lk_X7_12 rfl rfl ?_
      refine g_getR (k2 := 5) C ok5 dX7_cross_50 (hL 1 rfl) rfl 4 (by decide) lk_X7_83 rfl rfl ?_
      refine g_iload_n C dX7_cross_53 rfl 2 rfl ?_
      refine g_iald C dX7_cross_54 (hL 5 rfl) rfl rfl h ?_
      clear h; intro h
      refine g_iast C dX7_cross_55 (hL 4 rfl) rfl rfl h ?_
      clear h; intro s23 h
      refine g_aload_n C dX7_cross_56 rfl 1 rfl ?_
      refine g_getR (k2 := 1) C ok7 dX7_cross_57 (hL 0 rfl) rfl 0 (by decide) lk_X7_12 rfl rfl ?_
      refine g_getR (k2 := 5) C ok5 dX7_cross_60 (hL 1 rfl) rfl 4 (by decide) lk_X7_83 rfl rfl ?_
      refine g_iload_n C dX7_cross_63 rfl 2 rfl ?_
      refine g_iload_n C dX7_cross_64 rfl 0 rfl ?_
      refine g_iast C dX7_cross_65 (hL 5 rfl) rfl rfl h ?_
      clear h; intro s24 h
      refine g_aload_n C dX7_cross_66 rfl 1 rfl ?_
      replace h := bs_some h
      obtain ⟨s25, h1, h⟩ := h
      refine g_cV (As := []) (rest := []) (stk2 := []) C mf_X7_changed ok7 rfl lk_X7_66 in_X7_changed se_X7_changed dX7_cross_67 (hL 0 rfl) rfl rfl rfl rfl ⟨Nat.le_of_ble_eq_true rfl, Nat.le_of_ble_eq_true rfl⟩ (Nat.le_of_ble_eq_true rfl) ⟨Nat.le_refl 0, Nat.le_refl 0⟩ (ct_X7_changed hL h1) ?_
      refine g_iload_n C dX7_cross_70 rfl 2 rfl ?_
      exact g_iret C hr hlk dX7_cross_71 h
    · clear h; intro hc22 h
      refine g_bipush (v := (-5 : Int32)) C dX7_cross_25 (by decide) ?_
      exact g_iret C hr hlk dX7_cross_27 h
  · clear h; intro hc8 h
    refine g_iconst (v := (-1 : Int32)) C dX7_cross_11 (by decide) ?_
    exact g_iret C hr hlk dX7_cross_12 h
end SM
