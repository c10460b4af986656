section SM
variable {p : Program} {l : Launch} {e : Env} {s : State} {m : MethodId} {args : Array Value} {below : List Frame} {meth : Method} {c : Code} {D : va_G} {cy : Nat → ClassId} {ad : Nat → Nat} {A : Nat → Prop} {L : List Nat}
-- X3_listUsed
def lpB_X3_listUsed_15 (v1 : Int32) (self : Int32 → St → Option (St)) (v2 : Int32) (st : St) : Option (St) :=
  (if (7 : Int32) ≤ v2 then some st else (if ((v1 >>> (v2 &&& 31)) &&& (1 : Int32)) = 0 then lt (v2 + (1 : Int32)) (fun (v25 : Int32) => self v25 st) else ck (inb (st 32 9) 7) (lt (up st 64 (st 32 9).toNatClampNeg v2) (fun (s26 : St) => lt (up s26 32 9 ((s26 32 9) + (1 : Int32))) (fun (s27 : St) => lt (v2 + (1 : Int32)) (fun (v28 : Int32) => self v28 s27))))))
def lp_X3_listUsed_15 (v1 : Int32) : Nat → Int32 → St → Option (St) := itf (lpB_X3_listUsed_15 v1) (fun _ _ => none)
def F_X3_listUsed (N : Nat) (st : St) : Option (St) :=
  bs (F_X5_usedSet N st) (fun (r21 : Int32) => lt r21 (fun (v22 : Int32) => lt (up st 32 9 (0 : Int32)) (fun (s23 : St) => lt (0 : Int32) (fun (v24 : Int32) => lp_X3_listUsed_15 v22  N v24 s23))))
set_option maxHeartbeats 4000000 in
set_option maxRecDepth 100000 in
theorem wlp_X3_listUsed_15 (C : Cx p s m args c cX3_listUsed RX3 3 D cy ad A L) (hr : meth.sig.returnType = none) (hlk : meth.locks = false) (hL : ∀ k, prF k = true → k ∈ L) {N : Nat} {v1 : Int32} {st' : St} : ∀ (n : Nat) (v2 : Int32) (st : St), lp_X3_listUsed_15 v1 n v2 st = some st' → Gm p l e (rmD 2) s m args below meth c D cy ad A L 3 0 0 (MQ below (QG D cy ad A L none st') args s 0 0 A) 15 [(0, .ref (ad 32)), (1, .int v1), (2, .int v2)] [] st := by
  intro n
  induction n with
  | zero => intro v2 st h; cases h
  | succ n ih =>
    intro v2 st h
    change lpB_X3_listUsed_15 v1 (lp_X3_listUsed_15 v1 n) v2 st = some _ at h
    unfold lpB_X3_listUsed_15 at h
    refine g_iload_n C dX3_listUsed_15 rfl 2 rfl ?_
    refine g_bipush (v := (7 : Int32)) C dX3_listUsed_16 (by decide) ?_
    refine g_icmp_ge (tgt := 55) C dX3_listUsed_18 (by decide) h ?_ ?_
    · clear h; intro hc18 h
      exact g_vret C hr hlk dX3_listUsed_55 h
    · clear h; intro hc18 h
      refine g_iload_n C dX3_listUsed_21 rfl 1 rfl ?_
      refine g_iload_n C dX3_listUsed_22 rfl 2 rfl ?_
      refine g_ishr C dX3_listUsed_23 ?_
      refine g_iconst (v := (1 : Int32)) C dX3_listUsed_24 (by decide) ?_
      refine g_iand C dX3_listUsed_25 ?_
      refine g_if_eq (tgt := 49) C dX3_listUsed_26 (by decide) h ?_ ?_
      · clear h; intro hc26 h
        refine g_iinc (lv' := fun y => [(2, .int y), (0, .ref (ad 32)), (1, .int v1)]) C dX3_listUsed_49 2 rfl rfl (by decide) (fun y => rfl) h ?_
        clear h; intro v25 h
        refine g_goto (tgt := 15) C dX3_listUsed_52 (by decide) ?_
        refine g_sub (lv2 := [(0, .ref (ad 32)), (1, .int v1), (2, .int v25)]) [1, 2, 0] rfl ?_
        exact ih _ _ h
      · clear h; intro hc26 h
        refine g_aload_n C dX3_listUsed_29 rfl 0 rfl ?_
        refine g_getR (k2 := 64) C ok3 dX3_listUsed_30 (hL 32 rfl) rfl 8 (by decide) lk_X3_32 rfl rfl ?_
        refine g_aload_n C dX3_listUsed_33 rfl 0 rfl ?_
        refine g_getI C ok3 dX3_listUsed_34 (hL 32 rfl) rfl 9 (by decide) lk_X3_88 rfl ?_
        refine g_iload_n C dX3_listUsed_37 rfl 2 rfl ?_
        refine g_iast C dX3_listUsed_38 (hL 64 rfl) rfl rfl h ?_
        clear h; intro s26 h
        refine g_aload_n C dX3_listUsed_39 rfl 0 rfl ?_
        refine g_dup C dX3_listUsed_40 rfl ?_
        refine g_getI C ok3 dX3_listUsed_41 (hL 32 rfl) rfl 9 (by decide) lk_X3_88 rfl ?_
        refine g_iconst (v := (1 : Int32)) C dX3_listUsed_44 (by decide) ?_
        refine g_iadd C dX3_listUsed_45 ?_
        refine g_put (ty := .int) C ok3 dX3_listUsed_46 (hL 32 rfl) rfl 9 (by decide) lk_X3_88 rfl (tyX3_ok 9 (by decide)) rfl rfl rfl h ?_
        clear h; intro s27 h
        refine g_iinc (lv' := fun y => [(2, .int y), (0, .ref (ad 32)), (1, .int v1)]) C dX3_listUsed_49 2 rfl rfl (by decide) (fun y => rfl) h ?_
        clear h; intro v28 h
        refine g_goto (tgt := 15) C dX3_listUsed_52 (by decide) ?_
        refine g_sub (lv2 := [(0, .ref (ad 32)), (1, .int v1), (2, .int v28)]) [1, 2, 0] rfl ?_
        exact ih _ _ h
set_option maxHeartbeats 4000000 in
set_option maxRecDepth 100000 in
theorem ct_X3_listUsed {N : Nat} (hL : ∀ k, prF k = true → k ∈ L) {st st' : St} (h : F_X3_listUsed N st = some st') : Ct l D cy ad A L yX3_listUsed cX3_listUsed 3 none 2 [.ref (ad 32)] st none st' := by
  unfold F_X3_listUsed at h
  refine ct_of (own := RX3) (by decide) rfl (Nat.le_of_ble_eq_true rfl) ?_
  intro p e s m args below meth c C hr hlk
  refine g_sub (lv2 := [(0, .ref (ad 32))]) [0] rfl ?_
  refine g_aload_n C dX3_listUsed_0 rfl 0 rfl ?_
  refine g_getR (k2 := 1) C ok3 dX3_listUsed_1 (hL 32 rfl) rfl 0 (by decide) lk_X3_35 rfl rfl ?_
  replace h := bs_some h
  obtain ⟨r21, h1, h⟩ := h
  refine g_cV (As := []) (rest := []) (stk2 := [.int r21]) C mf_X5_usedSet ok5 rfl lk_X3_102 in_X5_usedSet se_X5_usedSet dX3_listUsed_4 (hL 1 rfl) rfl rfl rfl rfl ⟨Nat.le_of_ble_eq_true rfl, Nat.le_of_ble_eq_true rfl⟩ (Nat.le_of_ble_eq_true rfl) ⟨Nat.le_refl 0, Nat.le_refl 0⟩ (ct_X5_usedSet hL h1) ?_
  refine g_istore_n (lv' := fun y => [(1, .int y), (0, .ref (ad 32))]) C dX3_listUsed_7 rfl (by decide) (fun y => rfl) h ?_
  clear h; intro v22 h
  refine g_aload_n C dX3_listUsed_8 rfl 1 rfl ?_
  refine g_iconst (v := (0 : Int32)) C dX3_listUsed_9 (by decide) ?_
  refine g_put (ty := .int) C ok3 dX3_listUsed_10 (hL 32 rfl) rfl 9 (by decide) lk_X3_88 rfl (tyX3_ok 9 (by decide)) rfl rfl rfl h ?_
  clear h; intro s23 h
  refine g_iconst (v := (0 : Int32)) C dX3_listUsed_13 (by decide) ?_
  refine g_istore_n (lv' := fun y => [(2, .int y), (1, .int v22), (0, .ref (ad 32))]) C dX3_listUsed_14 rfl (by decide) (fun y => rfl) h ?_
  clear h; intro v24 h
  refine g_sub (lv2 := [(0, .ref (ad 32)), (1, .int v22), (2, .int v24)]) [2, 1, 0] rfl ?_
  refine wlp_X3_listUsed_15 (N := N) C hr hlk hL  _ _ _ h
-- X6_has
def F_X6_has (v1 : Int32) (st : St) : Option (Int32) :=
  (if (((st 25 7) >>> (v1 &&& 31)) &&& (1 : Int32)) = 0 then some (0 : Int32) else some (1 : Int32))
set_option maxHeartbeats 4000000 in
set_option maxRecDepth 100000 in
theorem ct_X6_has (hL : ∀ k, prF k = true → k ∈ L) {v1 : Int32} {st : St} {r' : Int32} (h : F_X6_has v1 st = some r') : Ct l D cy ad A L yX6_has cX6_has 2 (some .boolean) 1 [.ref (ad 25), .int v1] st (some (.int r')) st := by
  unfold F_X6_has at h
  refine ct_of (own := RX6) (by decide) rfl (Nat.le_of_ble_eq_true rfl) ?_
  intro p e s m args below meth c C hr hlk
  refine g_sub (lv2 := [(0, .ref (ad 25)), (1, .int v1)]) [0, 1] rfl ?_
  refine g_aload_n C dX6_has_0 rfl 0 rfl ?_
  refine g_getI C ok6 dX6_has_1 (hL 25 rfl) rfl 7 (by decide) lk_X6_40 rfl ?_
  refine g_iload_n C dX6_has_4 rfl 1 rfl ?_
  refine g_ishr C dX6_has_5 ?_
  refine g_iconst (v := (1 : Int32)) C dX6_has_6 (by decide) ?_
  refine g_iand C dX6_has_7 ?_
  refine g_if_eq (tgt := 15) C dX6_has_8 (by decide) h ?_ ?_
  · clear h; intro hc8 h
    refine g_iconst (v := (0 : Int32)) C dX6_has_15 (by decide) ?_
    exact g_zretLP C hr hlk rfl dX6_has_16 h
  · clear h; intro hc8 h
    refine g_iconst (v := (1 : Int32)) C dX6_has_11 (by decide) ?_
    refine g_goto (tgt := 16) C dX6_has_12 (by decide) ?_
    exact g_zretLP C hr hlk rfl dX6_has_16 h
-- X6_addFork
def F_X6_addFork (v1 : Int32) (v2 : Int32) (v3 : Int32) (st : St) : Option (St) :=
  ck (inb (st 25 6) 20) (lt (up st 28 (st 25 6).toNatClampNeg v1) (fun (s21 : St) => ck (inb (s21 25 6) 20) (lt (up s21 29 (s21 25 6).toNatClampNeg v2) (fun (s22 : St) => ck (inb (s22 25 6) 20) (lt (up s22 30 (s22 25 6).toNatClampNeg v3) (fun (s23 : St) => lt (up s23 25 6 ((s23 25 6) + (1 : Int32))) (fun (s24 : St) => some s24)))))))
set_option maxHeartbeats 4000000 in
set_option maxRecDepth 100000 in
theorem ct_X6_addFork (hL : ∀ k, prF k = true → k ∈ L) {v1 : Int32} {v2 : Int32} {v3 : Int32} {st st' : St} (h : F_X6_addFork v1 v2 v3 st = some st') : Ct l D cy ad A L yX6_addFork cX6_addFork 4 none 1 [.ref (ad 25), .int v1, .int v2, .int v3] st none st' := by
  unfold F_X6_addFork at h
  refine ct_of (own := RX6) (by decide) rfl (Nat.le_of_ble_eq_true rfl) ?_
  intro p e s m args below meth c C hr hlk
  refine g_sub (lv2 := [(0, .ref (ad 25)), (1, .int v1), (2, .int v2), (3, .int v3)]) [0, 1, 2, 3] rfl ?_
  refine g_aload_n C dX6_addFork_0 rfl 0 rfl ?_
  refine g_getR (k2 := 28) C ok6 dX6_addFork_1 (hL 25 rfl) rfl 2 (by decide) lk_X6_18 rfl rfl ?_
  refine g_aload_n C dX6_addFork_4 rfl 0 rfl ?_
  refine g_getI C ok6 dX6_addFork_5 (hL 25 rfl) rfl 6 (by decide) lk_X6_36 rfl ?_
  refine g_iload_n C dX6_addFork_8 rfl 1 rfl ?_
  refine g_iast C dX6_addFork_9 (hL 28 rfl) rfl rfl h ?_
  clear h; intro s21 h
  refine g_aload_n C dX6_addFork_10 rfl 0 rfl ?_
  refine g_getR (k2 := 29) C ok6 dX6_addFork_11 (hL 25 rfl) rfl 3 (by decide) lk_X6_21 rfl rfl ?_
  refine g_aload_n C dX6_addFork_14 rfl 0 rfl ?_
  refine g_getI C ok6 dX6_addFork_15 (hL 25 rfl) rfl 6 (by decide) lk_X6_36 rfl ?_
  refine g_iload_n C dX6_addFork_18 rfl 2 rfl ?_
  refine g_iast C dX6_addFork_19 (hL 29 rfl) rfl rfl h ?_
  clear h; intro s22 h
  refine g_aload_n C dX6_addFork_20 rfl 0 rfl ?_
  refine g_getR (k2 := 30) C ok6 dX6_addFork_21 (hL 25 rfl) rfl 4 (by decide) lk_X6_24 rfl rfl ?_
  refine g_aload_n C dX6_addFork_24 rfl 0 rfl ?_
  refine g_getI C ok6 dX6_addFork_25 (hL 25 rfl) rfl 6 (by decide) lk_X6_36 rfl ?_
  refine g_iload_n C dX6_addFork_28 rfl 3 rfl ?_
  refine g_iast C dX6_addFork_29 (hL 30 rfl) rfl rfl h ?_
  clear h; intro s23 h
  refine g_aload_n C dX6_addFork_30 rfl 0 rfl ?_
  refine g_dup C dX6_addFork_31 rfl ?_
  refine g_getI C ok6 dX6_addFork_32 (hL 25 rfl) rfl 6 (by decide) lk_X6_36 rfl ?_
  refine g_iconst (v := (1 : Int32)) C dX6_addFork_35 (by decide) ?_
  refine g_iadd C dX6_addFork_36 ?_
  refine g_put (ty := .int) C ok6 dX6_addFork_37 (hL 25 rfl) rfl 6 (by decide) lk_X6_36 rfl (tyX6_ok 6 (by decide)) rfl rfl rfl h ?_
  clear h; intro s24 h
  exact g_vret C hr hlk dX6_addFork_40 h
-- X6_pair
def F_X6_pair (v1 : Int32) (v2 : Int32) (st : St) : Option (St) :=
  ck (inb ((v1 * (7 : Int32)) + v2) 49) (ck (inb ((v1 * (7 : Int32)) + v2) 49) (lt (up st 26 ((v1 * (7 : Int32)) + v2).toNatClampNeg ((st 26 ((v1 * (7 : Int32)) + v2).toNatClampNeg) + (1 : Int32))) (fun (s21 : St) => ck (inb ((v2 * (7 : Int32)) + v1) 49) (ck (inb ((v2 * (7 : Int32)) + v1) 49) (lt (up s21 26 ((v2 * (7 : Int32)) + v1).toNatClampNeg ((s21 26 ((v2 * (7 : Int32)) + v1).toNatClampNeg) + (1 : Int32))) (fun (s22 : St) => some s22))))))
set_option maxHeartbeats 4000000 in
set_option maxRecDepth 100000 in
theorem ct_X6_pair (hL : ∀ k, prF k = true → k ∈ L) {v1 : Int32} {v2 : Int32} {st st' : St} (h : F_X6_pair v1 v2 st = some st') : Ct l D cy ad A L yX6_pair cX6_pair 3 none 1 [.ref (ad 25), .int v1, .int v2] st none st' := by
  unfold F_X6_pair at h
  refine ct_of (own := RX6) (by decide) rfl (Nat.le_of_ble_eq_true rfl) ?_
  intro p e s m args below meth c C hr hlk
  refine g_sub (lv2 := [(0, .ref (ad 25)), (1, .int v1), (2, .int v2)]) [0, 1, 2] rfl ?_
  refine g_aload_n C dX6_pair_0 rfl 0 rfl ?_
  refine g_getR (k2 := 26) C ok6 dX6_pair_1 (hL 25 rfl) rfl 0 (by decide) lk_X6_9 rfl rfl ?_
  refine g_iload_n C dX6_pair_4 rfl 1 rfl ?_
  refine g_bipush (v := (7 : Int32)) C dX6_pair_5 (by decide) ?_
  refine g_imul C dX6_pair_7 ?_
  refine g_iload_n C dX6_pair_8 rfl 2 rfl ?_
  refine g_iadd C dX6_pair_9 ?_
  refine g_dup2 C dX6_pair_10 rfl rfl ?_
  refine g_iald C dX6_pair_11 (hL 26 rfl) rfl rfl h ?_
  clear h; intro h
  refine g_iconst (v := (1 : Int32)) C dX6_pair_12 (by decide) ?_
  refine g_iadd C dX6_pair_13 ?_
  refine g_iast C dX6_pair_14 (hL 26 rfl) rfl rfl h ?_
  clear h; intro s21 h
  refine g_aload_n C dX6_pair_15 rfl 0 rfl ?_
  refine g_getR (k2 := 26) C ok6 dX6_pair_16 (hL 25 rfl) rfl 0 (by decide) lk_X6_9 rfl rfl ?_
  refine g_iload_n C dX6_pair_19 rfl 2 rfl ?_
  refine g_bipush (v := (7 : Int32)) C dX6_pair_20 (by decide) ?_
  refine g_imul C dX6_pair_22 ?_
  refine g_iload_n C dX6_pair_23 rfl 1 rfl ?_
  refine g_iadd C dX6_pair_24 ?_
  refine g_dup2 C dX6_pair_25 rfl rfl ?_
  refine g_iald C dX6_pair_26 (hL 26 rfl) rfl rfl h ?_
  clear h; intro h
  refine g_iconst (v := (1 : Int32)) C dX6_pair_27 (by decide) ?_
  refine g_iadd C dX6_pair_28 ?_
  refine g_iast C dX6_pair_29 (hL 26 rfl) rfl rfl h ?_
  clear h; intro s22 h
  exact g_vret C hr hlk dX6_pair_30 h
-- X6_fork
def F_X6_fork (v1 : Int32) (v2 : Int32) (st : St) : Option (St) :=
  lt (fun (x21 : Int32) => bs (F_X6_addFork x21 v1 v2 st) (fun (s23 : St) => bs (F_X6_pair v1 v2 s23) (fun (s24 : St) => lt (up s24 25 9 (1 : Int32)) (fun (s25 : St) => some s25)))) (fun (j22 : Int32 → Option (St)) => (if (st 25 9) = 0 then j22 (st 25 8) else j22 (-1 : Int32)))
set_option maxHeartbeats 4000000 in
set_option maxRecDepth 100000 in
theorem ct_X6_fork (hL : ∀ k, prF k = true → k ∈ L) {v1 : Int32} {v2 : Int32} {st st' : St} (h : F_X6_fork v1 v2 st = some st') : Ct l D cy ad A L yX6_fork cX6_fork 3 none 2 [.ref (ad 25), .int v1, .int v2] st none st' := by
  unfold F_X6_fork at h
  refine ct_of (own := RX6) (by decide) rfl (Nat.le_of_ble_eq_true rfl) ?_
  intro p e s m args below meth c C hr hlk
  refine g_sub (lv2 := [(0, .ref (ad 25)), (1, .int v1), (2, .int v2)]) [0, 1, 2] rfl ?_
  refine g_aload_n C dX6_fork_0 rfl 0 rfl ?_
  refine g_aload_n C dX6_fork_1 rfl 0 rfl ?_
  refine g_getI C ok6 dX6_fork_2 (hL 25 rfl) rfl 9 (by decide) lk_X6_46 rfl ?_
  replace h := lt_ex h
  obtain ⟨j22, ej22, h⟩ := h
  have hj22 : ∀ (x21 : Int32), j22 x21 = some st' → Gm p l e (rmD 2) s m args below meth c D cy ad A L 3 0 0 (MQ below (QG D cy ad A L none st') args s 0 0 A) 16 [(0, .ref (ad 25)), (1, .int v1), (2, .int v2)] [.int x21, .ref (ad 25)] st := by
    intro x21 h
    rw [ej22] at h
    dsimp only at h
    refine g_iload_n C dX6_fork_16 rfl 1 rfl ?_
    refine g_iload_n C dX6_fork_17 rfl 2 rfl ?_
    replace h := bs_some h
    obtain ⟨s23, h1, h⟩ := h
    refine g_cV (As := [.int x21, .int v1, .int v2]) (rest := []) (stk2 := []) C mf_X6_addFork ok6 rfl lk_X6_96 in_X6_addFork se_X6_addFork dX6_fork_18 (hL 25 rfl) rfl rfl rfl rfl ⟨Nat.le_of_ble_eq_true rfl, Nat.le_of_ble_eq_true rfl⟩ (Nat.le_of_ble_eq_true rfl) ⟨Nat.le_refl 0, Nat.le_refl 0⟩ (ct_X6_addFork hL h1) ?_
    refine g_aload_n C dX6_fork_21 rfl 0 rfl ?_
    refine g_iload_n C dX6_fork_22 rfl 1 rfl ?_
    refine g_iload_n C dX6_fork_23 rfl 2 rfl ?_
    replace h := bs_some h
    obtain ⟨s24, h1, h⟩ := h
    refine g_cV (As := [.int v1, .int v2]) (rest := []) (stk2 := []) C mf_X6_pair ok6 rfl lk_X6_100 in_X6_pair se_X6_pair dX6_fork_24 (hL 25 rfl) rfl rfl rfl rfl ⟨Nat.le_of_ble_eq_true rfl, Nat.le_of_ble_eq_true rfl⟩ (Nat.le_of_ble_eq_true rfl) ⟨Nat.le_refl 0, Nat.le_refl 0⟩ (ct_X6_pair hL h1) ?_
    refine g_aload_n C dX6_fork_27 rfl 0 rfl ?_
    refine g_iconst (v := (1 : Int32)) C dX6_fork_28 (by decide) ?_
    refine g_put (ty := .boolean) C ok6 dX6_fork_29 (hL 25 rfl) rfl 9 (by decide) lk_X6_46 rfl (tyX6_ok 9 (by decide)) rfl rfl rfl h ?_
    clear h; intro s25 h
    exact g_vret C hr hlk dX6_fork_32 h
  refine g_if_eq (tgt := 12) C dX6_fork_5 (by decide) h ?_ ?_
  · clear h; intro hc5 h
    refine g_aload_n C dX6_fork_12 rfl 0 rfl ?_
    refine g_getI C ok6 dX6_fork_13 (hL 25 rfl) rfl 8 (by decide) lk_X6_43 rfl ?_
    refine g_sub (lv2 := [(0, .ref (ad 25)), (1, .int v1), (2, .int v2)]) [0, 1, 2] rfl ?_
    exact hj22 _ h
  · clear h; intro hc5 h
    refine g_iconst (v := (-1 : Int32)) C dX6_fork_8 (by decide) ?_
    refine g_goto (tgt := 16) C dX6_fork_9 (by decide) ?_
    refine g_sub (lv2 := [(0, .ref (ad 25)), (1, .int v1), (2, .int v2)]) [0, 1, 2] rfl ?_
    exact hj22 _ h
-- X6_pass
def F_X6_pass (v1 : Int32) (st : St) : Option (St) :=
  bs (F_X6_has v1 st) (fun (r21 : Int32) => (if r21 = 0 then some st else (if (st 25 9) = 0 then (if (st 25 8) = (7 : Int32) then lt (up st 25 8 v1) (fun (s22 : St) => some s22) else (if (st 25 8) = v1 then lt (up st 25 8 v1) (fun (s23 : St) => some s23) else bs (F_X6_pair (st 25 8) v1 st) (fun (s24 : St) => lt (up s24 25 8 v1) (fun (s25 : St) => some s25)))) else bs (F_X6_addFork (-1 : Int32) v1 (-1 : Int32) st) (fun (s26 : St) => lt (up s26 25 9 (0 : Int32)) (fun (s27 : St) => lt (up s27 25 8 v1) (fun (s28 : St) => some s28))))))
set_option maxHeartbeats 4000000 in
set_option maxRecDepth 100000 in
theorem ct_X6_pass (hL : ∀ k, prF k = true → k ∈ L) {v1 : Int32} {st st' : St} (h : F_X6_pass v1 st = some st') : Ct l D cy ad A L yX6_pass cX6_pass 2 none 2 [.ref (ad 25), .int v1] st none st' := by
  unfold F_X6_pass at h
  refine ct_of (own := RX6) (by decide) rfl (Nat.le_of_ble_eq_true rfl) ?_
  intro p e s m args below meth c C hr hlk
  refine g_sub (lv2 := [(0, .ref (ad 25)), (1, .int v1)]) [0, 1] rfl ?_
  refine g_aload_n C dX6_pass_0 rfl 0 rfl ?_
  refine g_iload_n C dX6_pass_1 rfl 1 rfl ?_
  replace h := bs_some h
  obtain ⟨r21, h1, h⟩ := h
  refine g_cV (As := [.int v1]) (rest := []) (stk2 := [.int r21]) C mf_X6_has ok6 rfl lk_X6_61 in_X6_has se_X6_has dX6_pass_2 (hL 25 rfl) rfl rfl rfl rfl ⟨Nat.le_of_ble_eq_true rfl, Nat.le_of_ble_eq_true rfl⟩ (Nat.le_of_ble_eq_true rfl) ⟨Nat.le_refl 0, Nat.le_refl 0⟩ (ct_X6_has hL h1) ?_
  refine g_if_ne (tgt := 9) C dX6_pass_5 (by decide) h ?_ ?_
  · clear h; intro hc5 h
    refine g_aload_n C dX6_pass_9 rfl 0 rfl ?_
    refine g_getI C ok6 dX6_pass_10 (hL 25 rfl) rfl 9 (by decide) lk_X6_46 rfl ?_
    refine g_if_eq (tgt := 31) C dX6_pass_13 (by decide) h ?_ ?_
    · clear h; intro hc13 h
      refine g_aload_n C dX6_pass_31 rfl 0 rfl ?_
      refine g_getI C ok6 dX6_pass_32 (hL 25 rfl) rfl 8 (by decide) lk_X6_43 rfl ?_
      refine g_bipush (v := (7 : Int32)) C dX6_pass_35 (by decide) ?_
      refine g_icmp_eq (tgt := 57) C dX6_pass_37 (by decide) h ?_ ?_
      · clear h; intro hc37 h
        refine g_aload_n C dX6_pass_57 rfl 0 rfl ?_
        refine g_iload_n C dX6_pass_58 rfl 1 rfl ?_
        refine g_put (ty := .int) C ok6 dX6_pass_59 (hL 25 rfl) rfl 8 (by decide) lk_X6_43 rfl (tyX6_ok 8 (by decide)) rfl rfl rfl h ?_
        clear h; intro s22 h
        exact g_vret C hr hlk dX6_pass_62 h
      · clear h; intro hc37 h
        refine g_aload_n C dX6_pass_40 rfl 0 rfl ?_
        refine g_getI C ok6 dX6_pass_41 (hL 25 rfl) rfl 8 (by decide) lk_X6_43 rfl ?_
        refine g_iload_n C dX6_pass_44 rfl 1 rfl ?_
        refine g_icmp_eq (tgt := 57) C dX6_pass_45 (by decide) h ?_ ?_
        · clear h; intro hc45 h
          refine g_aload_n C dX6_pass_57 rfl 0 rfl ?_
          refine g_iload_n C dX6_pass_58 rfl 1 rfl ?_
          refine g_put (ty := .int) C ok6 dX6_pass_59 (hL 25 rfl) rfl 8 (by decide) lk_X6_43 rfl (tyX6_ok 8 (by decide)) rfl rfl rfl h ?_
          clear h; intro s23 h
          exact g_vret C hr hlk dX6_pass_62 h
        · clear h; intro hc45 h
          refine g_aload_n C dX6_pass_48 rfl 0 rfl ?_
          refine g_aload_n C dX6_pass_49 rfl 0 rfl ?_
          refine g_getI C ok6 dX6_pass_50 (hL 25 rfl) rfl 8 (by decide) lk_X6_43 rfl ?_
          refine g_iload_n C dX6_pass_53 rfl 1 rfl ?_
          replace h := bs_some h
          obtain ⟨s24, h1, h⟩ := h
          refine g_cV (As := [.int (st 25 8), .int v1]) (rest := []) (stk2 := []) C mf_X6_pair ok6 rfl lk_X6_100 in_X6_pair se_X6_pair dX6_pass_54 (hL 25 rfl) rfl rfl rfl rfl ⟨Nat.le_of_ble_eq_true rfl, Nat.le_of_ble_eq_true rfl⟩ (Nat.le_of_ble_eq_true rfl) ⟨Nat.le_refl 0, Nat.le_refl 0⟩ (ct_X6_pair hL h1) ?_
          refine g_aload_n C dX6_pass_57 rfl 0 rfl ?_
          refine g_iload_n C dX6_pass_58 rfl 1 rfl ?_
          refine g_put (ty := .int) C ok6 dX6_pass_59 (hL 25 rfl) rfl 8 (by decide) lk_X6_43 rfl (tyX6_ok 8 (by decide)) rfl rfl rfl h ?_
          clear h; intro s25 h
          exact g_vret C hr hlk dX6_pass_62 h
    · clear h; intro hc13 h
      refine g_aload_n C dX6_pass_16 rfl 0 rfl ?_
      refine g_iconst (v := (-1 : Int32)) C dX6_pass_17 (by decide) ?_
      refine g_iload_n C dX6_pass_18 rfl 1 rfl ?_
      refine g_iconst (v := (-1 : Int32)) C dX6_pass_19 (by decide) ?_
      replace h := bs_some h
      obtain ⟨s26, h1, h⟩ := h
      refine g_cV (As := [.int (-1 : Int32), .int v1, .int (-1 : Int32)]) (rest := []) (stk2 := []) C mf_X6_addFork ok6 rfl lk_X6_96 in_X6_addFork se_X6_addFork dX6_pass_20 (hL 25 rfl) rfl rfl rfl rfl ⟨Nat.le_of_ble_eq_true rfl, Nat.le_of_ble_eq_true rfl⟩ (Nat.le_of_ble_eq_true rfl) ⟨Nat.le_refl 0, Nat.le_refl 0⟩ (ct_X6_addFork hL h1) ?_
      refine g_aload_n C dX6_pass_23 rfl 0 rfl ?_
      refine g_iconst (v := (0 : Int32)) C dX6_pass_24 (by decide) ?_
      refine g_put (ty := .boolean) C ok6 dX6_pass_25 (hL 25 rfl) rfl 9 (by decide) lk_X6_46 rfl (tyX6_ok 9 (by decide)) rfl rfl rfl h ?_
      clear h; intro s27 h
      refine g_goto (tgt := 57) C dX6_pass_28 (by decide) ?_
      refine g_aload_n C dX6_pass_57 rfl 0 rfl ?_
      refine g_iload_n C dX6_pass_58 rfl 1 rfl ?_
      refine g_put (ty := .int) C ok6 dX6_pass_59 (hL 25 rfl) rfl 8 (by decide) lk_X6_43 rfl (tyX6_ok 8 (by decide)) rfl rfl rfl h ?_
      clear h; intro s28 h
      exact g_vret C hr hlk dX6_pass_62 h
  · clear h; intro hc5 h
    exact g_vret C hr hlk dX6_pass_8 h
-- X6_trace
def lpB_X6_trace_32 (v3 : Int32) (v4 : Int32) (self : Int32 → St → Option (St)) (v5 : Int32) (st : St) : Option (St) :=
  (if (st 1 0) ≤ v5 then some st else ck (inb v5 10) (lt (st 4 v5.toNatClampNeg) (fun (v27 : Int32) => ck (inb v5 10) (lt (st 5 v5.toNatClampNeg) (fun (v28 : Int32) => lt (fun (s29 : St) => ck (inb v5 10) (bs (F_X6_pass (s29 3 v5.toNatClampNeg) s29) (fun (s31 : St) => lt (v5 + (1 : Int32)) (fun (v32 : Int32) => self v32 s31)))) (fun (j30 : St → Option (St)) => lt ((if ((v4 >>> (v5 &&& 31)) &&& (1 : Int32)) = 0 then bs (F_X6_pass v27 st) (fun (s34 : St) => bs (F_X6_pass v28 s34) (fun (s35 : St) => j30 s35)) else bs (F_X6_pass v28 st) (fun (s36 : St) => bs (F_X6_pass v27 s36) (fun (s37 : St) => j30 s37)))) (fun (j33 : Option (St)) => (if ((v3 >>> (v5 &&& 31)) &&& (1 : Int32)) = 0 then j33 else bs (F_X6_has v27 st) (fun (r38 : Int32) => (if r38 = 0 then j33 else bs (F_X6_has v28 st) (fun (r39 : Int32) => (if r39 = 0 then j33 else bs (F_X6_fork v27 v28 st) (fun (s40 : St) => j30 s40)))))))))))))
def lp_X6_trace_32 (v3 : Int32) (v4 : Int32) : Nat → Int32 → St → Option (St) := itf (lpB_X6_trace_32 v3 v4) (fun _ _ => none)
def F_X6_trace (N : Nat) (v2 : Int32) (v3 : Int32) (v4 : Int32) (st : St) : Option (St) :=
  bs (F_J7_fill_53178 N 26 (0 : Int32) st) (fun (s21 : St) => lt (up s21 25 6 (0 : Int32)) (fun (s22 : St) => lt (up s22 25 7 v2) (fun (s23 : St) => lt (up s23 25 8 (7 : Int32)) (fun (s24 : St) => lt (up s24 25 9 (0 : Int32)) (fun (s25 : St) => lt (0 : Int32) (fun (v26 : Int32) => lp_X6_trace_32 v3 v4  N v26 s25))))))
set_option maxHeartbeats 4000000 in
set_option maxRecDepth 100000 in
theorem wlp_X6_trace_32 (C : Cx p s m args c cX6_trace RX6 8 D cy ad A L) (hr : meth.sig.returnType = none) (hlk : meth.locks = false) (hL : ∀ k, prF k = true → k ∈ L) {N : Nat} {v3 : Int32} {v4 : Int32} {st' : St} : ∀ (n : Nat) (v5 : Int32) (st : St), lp_X6_trace_32 v3 v4 n v5 st = some st' → Gm p l e (rmD 3) s m args below meth c D cy ad A L 8 0 0 (MQ below (QG D cy ad A L none st') args s 0 0 A) 32 [(0, .ref (ad 25)), (1, .ref (ad 1)), (3, .int v3), (4, .int v4), (5, .int v5)] [] st := by
  intro n
  induction n with
  | zero => intro v5 st h; cases h
  | succ n ih =>
    intro v5 st h
    change lpB_X6_trace_32 v3 v4 (lp_X6_trace_32 v3 v4 n) v5 st = some _ at h
    unfold lpB_X6_trace_32 at h
    refine g_iload C dX6_trace_32 4 rfl ?_
    refine g_aload_n C dX6_trace_34 rfl 1 rfl ?_
    refine g_getI C ok5 dX6_trace_35 (hL 1 rfl) rfl 0 (by decide) lk_X6_50 rfl ?_
    refine g_icmp_ge (tgt := 151) C dX6_trace_38 (by decide) h ?_ ?_
    · clear h; intro hc38 h
      exact g_vret C hr hlk dX6_trace_151 h
    · clear h; intro hc38 h
      refine g_aload_n C dX6_trace_41 rfl 1 rfl ?_
      refine g_getR (k2 := 4) C ok5 dX6_trace_42 (hL 1 rfl) rfl 3 (by decide) lk_X6_55 rfl rfl ?_
      refine g_iload C dX6_trace_45 4 rfl ?_
      refine g_iald C dX6_trace_47 (hL 4 rfl) rfl rfl h ?_
      clear h; intro h
      refine g_istore (lv' := fun y => [(6, .int y), (0, .ref (ad 25)), (1, .ref (ad 1)), (3, .int v3), (4, .int v4), (5, .int v5)]) C dX6_trace_48 (by decide) (fun y => rfl) h ?_
      clear h; intro v27 h
      refine g_aload_n C dX6_trace_50 rfl 2 rfl ?_
      refine g_getR (k2 := 5) C ok5 dX6_trace_51 (hL 1 rfl) rfl 4 (by decide) lk_X6_58 rfl rfl ?_
      refine g_iload C dX6_trace_54 5 rfl ?_
      refine g_iald C dX6_trace_56 (hL 5 rfl) rfl rfl h ?_
      clear h; intro h
      refine g_istore (lv' := fun y => [(7, .int y), (6, .int v27), (0, .ref (ad 25)), (1, .ref (ad 1)), (3, .int v3), (4, .int v4), (5, .int v5)]) C dX6_trace_57 (by decide) (fun y => rfl) h ?_
      clear h; intro v28 h
      refine g_iload_n C dX6_trace_59 rfl 4 rfl ?_
      refine g_iload C dX6_trace_60 6 rfl ?_
      refine g_ishr C dX6_trace_62 ?_
      refine g_iconst (v := (1 : Int32)) C dX6_trace_63 (by decide) ?_
      refine g_iand C dX6_trace_64 ?_
      replace h := lt_ex h
      obtain ⟨j30, ej30, h⟩ := h
      have hj30 : ∀ (s29 : St), j30 s29 = some st' → Gm p l e (rmD 3) s m args below meth c D cy ad A L 8 0 0 (MQ below (QG D cy ad A L none st') args s 0 0 A) 134 [(0, .ref (ad 25)), (1, .ref (ad 1)), (3, .int v3), (4, .int v4), (5, .int v5)] [] s29 := by
        intro s29 h
        rw [ej30] at h
        dsimp only at h
        refine g_aload_n C dX6_trace_134 rfl 0 rfl ?_
        refine g_aload_n C dX6_trace_135 rfl 1 rfl ?_
        refine g_getR (k2 := 3) C ok5 dX6_trace_136 (hL 1 rfl) rfl 2 (by decide) lk_X6_73 rfl rfl ?_
        refine g_iload C dX6_trace_139 4 rfl ?_
        refine g_iald C dX6_trace_141 (hL 3 rfl) rfl rfl h ?_
        clear h; intro h
        replace h := bs_some h
        obtain ⟨s31, h1, h⟩ := h
        refine g_cV (As := [.int (s29 3 v5.toNatClampNeg)]) (rest := []) (stk2 := []) C mf_X6_pass ok6 rfl lk_X6_69 in_X6_pass se_X6_pass dX6_trace_142 (hL 25 rfl) rfl rfl rfl rfl ⟨Nat.le_of_ble_eq_true rfl, Nat.le_of_ble_eq_true rfl⟩ (Nat.le_of_ble_eq_true rfl) ⟨Nat.le_refl 0, Nat.le_refl 0⟩ (ct_X6_pass hL h1) ?_
        refine g_iinc (lv' := fun y => [(5, .int y), (0, .ref (ad 25)), (1, .ref (ad 1)), (3, .int v3), (4, .int v4)]) C dX6_trace_145 4 rfl rfl (by decide) (fun y => rfl) h ?_
        clear h; intro v32 h
        refine g_goto (tgt := 32) C dX6_trace_148 (by decide) ?_
        refine g_sub (lv2 := [(0, .ref (ad 25)), (1, .ref (ad 1)), (3, .int v3), (4, .int v4), (5, .int v32)]) [1, 2, 3, 4, 0] rfl ?_
        exact ih _ _ h
      replace h := lt_ex h
      obtain ⟨j33, ej33, h⟩ := h
      have hj33 : j33 = some st' → Gm p l e (rmD 3) s m args below meth c D cy ad A L 8 0 0 (MQ below (QG D cy ad A L none st') args s 0 0 A) 97 [(0, .ref (ad 25)), (1, .ref (ad 1)), (3, .int v3), (4, .int v4), (5, .int v5), (6, .int v27), (7, .int v28)] [] st := by
        intro h
        rw [ej33] at h
        skip
        refine g_iload C dX6_trace_97 3 rfl ?_
        refine g_iload C dX6_trace_99 4 rfl ?_
        refine g_ishr C dX6_trace_101 ?_
        refine g_iconst (v := (1 : Int32)) C dX6_trace_102 (by decide) ?_
        refine g_iand C dX6_trace_103 ?_
        refine g_if_eq (tgt := 122) C dX6_trace_104 (by decide) h ?_ ?_
        · clear h; intro hc104 h
          refine g_aload_n C dX6_trace_122 rfl 0 rfl ?_
          refine g_iload C dX6_trace_123 5 rfl ?_
          replace h := bs_some h
          obtain ⟨s34, h1, h⟩ := h
          refine g_cV (As := [.int v27]) (rest := []) (stk2 := []) C mf_X6_pass ok6 rfl lk_X6_69 in_X6_pass se_X6_pass dX6_trace_125 (hL 25 rfl) rfl rfl rfl rfl ⟨Nat.le_of_ble_eq_true rfl, Nat.le_of_ble_eq_true rfl⟩ (Nat.le_of_ble_eq_true rfl) ⟨Nat.le_refl 0, Nat.le_refl 0⟩ (ct_X6_pass hL h1) ?_
          refine g_aload_n C dX6_trace_128 rfl 0 rfl ?_
          refine g_iload C dX6_trace_129 6 rfl ?_
          replace h := bs_some h
          obtain ⟨s35, h1, h⟩ := h
          refine g_cV (As := [.int v28]) (rest := []) (stk2 := []) C mf_X6_pass ok6 rfl lk_X6_69 in_X6_pass se_X6_pass dX6_trace_131 (hL 25 rfl) rfl rfl rfl rfl ⟨Nat.le_of_ble_eq_true rfl, Nat.le_of_ble_eq_true rfl⟩ (Nat.le_of_ble_eq_true rfl) ⟨Nat.le_refl 0, Nat.le_refl 0⟩ (ct_X6_pass hL h1) ?_
          refine g_sub (lv2 := [(0, .ref (ad 25)), (1, .ref (ad 1)), (3, .int v3), (4, .int v4), (5, .int v5)]) [0, 1, 2, 3, 4] rfl ?_
          exact hj30 _ h
        · clear h; intro hc104 h
          refine g_aload_n C dX6_trace_107 rfl 0 rfl ?_
          refine g_iload C dX6_trace_108 6 rfl ?_
          replace h := bs_some h
          obtain ⟨s36, h1, h⟩ := h
          refine g_cV (As := [.int v28]) (rest := []) (stk2 := []) C mf_X6_pass ok6 rfl lk_X6_69 in_X6_pass se_X6_pass dX6_trace_110 (hL 25 rfl) rfl rfl rfl rfl ⟨Nat.le_of_ble_eq_true rfl, Nat.le_of_ble_eq_true rfl⟩ (Nat.le_of_ble_eq_true rfl) ⟨Nat.le_refl 0, Nat.le_refl 0⟩ (ct_X6_pass hL h1) ?_
          refine g_aload_n C dX6_trace_113 rfl 0 rfl ?_
          refine g_iload C dX6_trace_114 5 rfl ?_
          replace h := bs_some h
          obtain ⟨s37, h1, h⟩ := h
          refine g_cV (As := [.int v27]) (rest := []) (stk2 := []) C mf_X6_pass ok6 rfl lk_X6_69 in_X6_pass se_X6_pass dX6_trace_116 (hL 25 rfl) rfl rfl rfl rfl ⟨Nat.le_of_ble_eq_true rfl, Nat.le_of_ble_eq_true rfl⟩ (Nat.le_of_ble_eq_true rfl) ⟨Nat.le_refl 0, Nat.le_refl 0⟩ (ct_X6_pass hL h1) ?_
          refine g_goto (tgt := 134) C dX6_trace_119 (by decide) ?_
          refine g_sub (lv2 := [(0, .ref (ad 25)), (1, .ref (ad 1)), (3, .int v3), (4, .int v4), (5, .int v5)]) [0, 1, 2, 3, 4] rfl ?_
          exact hj30 _ h
      refine g_if_eq (tgt := 97) C dX6_trace_65 (by decide) h ?_ ?_
      · clear h; intro hc65 h
        refine g_sub (lv2 := [(0, .ref (ad 25)), (1, .ref (ad 1)), (3, .int v3), (4, .int v4), (5, .int v5), (6, .int v27), (7, .int v28)]) [2, 3, 4, 5, 6, 1, 0] rfl ?_
        exact hj33  h
      · clear h; intro hc65 h
        refine g_aload_n C dX6_trace_68 rfl 2 rfl ?_
        refine g_iload C dX6_trace_69 1 rfl ?_
        replace h := bs_some h
        obtain ⟨r38, h1, h⟩ := h
        refine g_cV (As := [.int v27]) (rest := []) (stk2 := [.int r38]) C mf_X6_has ok6 rfl lk_X6_61 in_X6_has se_X6_has dX6_trace_71 (hL 25 rfl) rfl rfl rfl rfl ⟨Nat.le_of_ble_eq_true rfl, Nat.le_of_ble_eq_true rfl⟩ (Nat.le_of_ble_eq_true rfl) ⟨Nat.le_refl 0, Nat.le_refl 0⟩ (ct_X6_has hL h1) ?_
        refine g_if_eq (tgt := 97) C dX6_trace_74 (by decide) h ?_ ?_
        · clear h; intro hc74 h
          refine g_sub (lv2 := [(0, .ref (ad 25)), (1, .ref (ad 1)), (3, .int v3), (4, .int v4), (5, .int v5), (6, .int v27), (7, .int v28)]) [2, 3, 4, 5, 6, 1, 0] rfl ?_
          exact hj33  h
        · clear h; intro hc74 h
          refine g_aload_n C dX6_trace_77 rfl 2 rfl ?_
          refine g_iload C dX6_trace_78 0 rfl ?_
          replace h := bs_some h
          obtain ⟨r39, h1, h⟩ := h
          refine g_cV (As := [.int v28]) (rest := []) (stk2 := [.int r39]) C mf_X6_has ok6 rfl lk_X6_61 in_X6_has se_X6_has dX6_trace_80 (hL 25 rfl) rfl rfl rfl rfl ⟨Nat.le_of_ble_eq_true rfl, Nat.le_of_ble_eq_true rfl⟩ (Nat.le_of_ble_eq_true rfl) ⟨Nat.le_refl 0, Nat.le_refl 0⟩ (ct_X6_has hL h1) ?_
          refine g_if_eq (tgt := 97) C dX6_trace_83 (by decide) h ?_ ?_
          · clear h; intro hc83 h
            refine g_sub (lv2 := [(0, .ref (ad 25)), (1, .ref (ad 1)), (3, .int v3), (4, .int v4), (5, .int v5), (6, .int v27), (7, .int v28)]) [2, 3, 4, 5, 6, 1, 0] rfl ?_
            exact hj33  h
          · clear h; intro hc83 h
            refine g_aload_n C dX6_trace_86 rfl 2 rfl ?_
            refine g_iload C dX6_trace_87 1 rfl ?_
            refine g_iload C dX6_trace_89 0 rfl ?_
            replace h := bs_some h
            obtain ⟨s40, h1, h⟩ := h
            refine g_cV (As := [.int v27, .int v28]) (rest := []) (stk2 := []) C mf_X6_fork ok6 rfl lk_X6_65 in_X6_fork se_X6_fork dX6_trace_91 (hL 25 rfl) rfl rfl rfl rfl ⟨Nat.le_of_ble_eq_true rfl, Nat.le_of_ble_eq_true rfl⟩ (Nat.le_of_ble_eq_true rfl) ⟨Nat.le_refl 0, Nat.le_refl 0⟩ (ct_X6_fork hL h1) ?_
            refine g_goto (tgt := 134) C dX6_trace_94 (by decide) ?_
            refine g_sub (lv2 := [(0, .ref (ad 25)), (1, .ref (ad 1)), (3, .int v3), (4, .int v4), (5, .int v5)]) [2, 3, 4, 5, 6] rfl ?_
            exact hj30 _ h
set_option maxHeartbeats 4000000 in
set_option maxRecDepth 100000 in
theorem ct_X6_trace {N : Nat} (hL : ∀ k, prF k = true → k ∈ L) {v2 : Int32} {v3 : Int32} {v4 : Int32} {st st' : St} (h : F_X6_trace N v2 v3 v4 st = some st') : Ct l D cy ad A L yX6_trace cX6_trace 8 none 3 [.ref (ad 25), .ref (ad 1), .int v2, .int v3, .int v4] st none st' := by
  unfold F_X6_trace at h
  refine ct_of (own := RX6) (by decide) rfl (Nat.le_of_ble_eq_true rfl) ?_
  intro p e s m args below meth c C hr hlk
  refine g_sub (lv2 := [(0, .ref (ad 25)), (1, .ref (ad 1)), (2, .int v2), (3, .int v3), (4, .int v4)]) [0, 1, 2, 3, 4] rfl ?_
  refine g_aload_n C dX6_trace_0 rfl 0 rfl ?_
  refine g_getR (k2 := 26) C ok6 dX6_trace_1 (hL 25 rfl) rfl 0 (by decide) lk_X6_9 rfl rfl ?_
  refine g_iconst (v := (0 : Int32)) C dX6_trace_4 (by decide) ?_
  replace h := bs_some h
  obtain ⟨s21, h1, h⟩ := h
  refine g_cS (As := [.ref (ad 26), .int (0 : Int32)]) (rest := []) (stk2 := []) C mf_J7_fill_53178 lk_X6_30 sm_J7_fill_53178 dX6_trace_5 rfl rfl rfl ⟨Nat.le_of_ble_eq_true rfl, Nat.le_of_ble_eq_true rfl⟩ (Nat.le_of_ble_eq_true rfl) ⟨Nat.le_refl 0, Nat.le_refl 0⟩ (ct_J7_fill_53178 (hL 26 rfl) h1) ?_
  refine g_aload_n C dX6_trace_8 rfl 0 rfl ?_
  refine g_iconst (v := (0 : Int32)) C dX6_trace_9 (by decide) ?_
  refine g_put (ty := .int) C ok6 dX6_trace_10 (hL 25 rfl) rfl 6 (by decide) lk_X6_36 rfl (tyX6_ok 6 (by decide)) rfl rfl rfl h ?_
  clear h; intro s22 h
  refine g_aload_n C dX6_trace_13 rfl 0 rfl ?_
  refine g_iload_n C dX6_trace_14 rfl 2 rfl ?_
  refine g_put (ty := .int) C ok6 dX6_trace_15 (hL 25 rfl) rfl 7 (by decide) lk_X6_40 rfl (tyX6_ok 7 (by decide)) rfl rfl rfl h ?_
  clear h; intro s23 h
  refine g_aload_n C dX6_trace_18 rfl 0 rfl ?_
  refine g_bipush (v := (7 : Int32)) C dX6_trace_19 (by decide) ?_
  refine g_put (ty := .int) C ok6 dX6_trace_21 (hL 25 rfl) rfl 8 (by decide) lk_X6_43 rfl (tyX6_ok 8 (by decide)) rfl rfl rfl h ?_
  clear h; intro s24 h
  refine g_aload_n C dX6_trace_24 rfl 0 rfl ?_
  refine g_iconst (v := (0 : Int32)) C dX6_trace_25 (by decide) ?_
  refine g_put (ty := .boolean) C ok6 dX6_trace_26 (hL 25 rfl) rfl 9 (by decide) lk_X6_46 rfl (tyX6_ok 9 (by decide)) rfl rfl rfl h ?_
  clear h; intro s25 h
  refine g_iconst (v := (0 : Int32)) C dX6_trace_29 (by decide) ?_
  refine g_istore (lv' := fun y => [(5, .int y), (0, .ref (ad 25)), (1, .ref (ad 1)), (2, .int v2), (3, .int v3), (4, .int v4)]) C dX6_trace_30 (by decide) (fun y => rfl) h ?_
  clear h; intro v26 h
  refine g_sub (lv2 := [(0, .ref (ad 25)), (1, .ref (ad 1)), (3, .int v3), (4, .int v4), (5, .int v26)]) [1, 2, 4, 5, 0] rfl ?_
  refine wlp_X6_trace_32 (N := N) C hr hlk hL  _ _ _ h
-- X6_areTwins
def lpB_X6_areTwins_3 (v1 : Int32) (v2 : Int32) (v3 : Int32) (st : St) (self : Int32 → Option (Int32)) (v4 : Int32) : Option (Int32) :=
  (if v3 ≤ v4 then some (1 : Int32) else (if v4 = v1 then lt (v4 + (1 : Int32)) (fun (v22 : Int32) => self v22) else (if v4 = v2 then lt (v4 + (1 : Int32)) (fun (v23 : Int32) => self v23) else ck (inb ((v4 * (8 : Int32)) + v1) 64) (ck (inb ((v4 * (8 : Int32)) + v2) 64) ((if (st 27 ((v4 * (8 : Int32)) + v1).toNatClampNeg) = (st 27 ((v4 * (8 : Int32)) + v2).toNatClampNeg) then lt (v4 + (1 : Int32)) (fun (v24 : Int32) => self v24) else some (0 : Int32)))))))
def lp_X6_areTwins_3 (v1 : Int32) (v2 : Int32) (v3 : Int32) (st : St) : Nat → Int32 → Option (Int32) := itf (lpB_X6_areTwins_3 v1 v2 v3 st) (fun _ => none)
def F_X6_areTwins (N : Nat) (v1 : Int32) (v2 : Int32) (v3 : Int32) (st : St) : Option (Int32) :=
  lt (0 : Int32) (fun (v21 : Int32) => lp_X6_areTwins_3 v1 v2 v3 st  N v21)
set_option maxHeartbeats 4000000 in
set_option maxRecDepth 100000 in
theorem wlp_X6_areTwins_3 (C : Cx p s m args c cX6_areTwins RX6 5 D cy ad A L) (hr : meth.sig.returnType = (some .boolean)) (hlk : meth.locks = false) (hL : ∀ k, prF k = true → k ∈ L) {N : Nat} {v1 : Int32} {v2 : Int32} {v3 : Int32} {r' : Int32}  {st : St} : ∀ (n : Nat) (v4 : Int32), lp_X6_areTwins_3 v1 v2 v3 st n v4 = some r' → Gm p l e (rmD 1) s m args below meth c D cy ad A L 5 0 0 (MQ below (QG D cy ad A L (some (.int r')) st) args s 0 0 A) 3 [(0, .ref (ad 25)), (1, .int v1), (2, .int v2), (3, .int v3), (4, .int v4)] [] st := by
  intro n
  induction n with
  | zero => intro v4 h; cases h
  | succ n ih =>
    intro v4 h
    change lpB_X6_areTwins_3 v1 v2 v3 st (lp_X6_areTwins_3 v1 v2 v3 st n) v4 = some _ at h
    unfold lpB_X6_areTwins_3 at h
    refine g_iload C dX6_areTwins_3 4 rfl ?_
    refine g_iload_n C dX6_areTwins_5 rfl 3 rfl ?_
    refine g_icmp_ge (tgt := 56) C dX6_areTwins_6 (by decide) h ?_ ?_
    · clear h; intro hc6 h
      refine g_iconst (v := (1 : Int32)) C dX6_areTwins_56 (by decide) ?_
      exact g_zretLP C hr hlk rfl dX6_areTwins_57 h
    · clear h; intro hc6 h
      refine g_iload C dX6_areTwins_9 4 rfl ?_
      refine g_iload_n C dX6_areTwins_11 rfl 1 rfl ?_
      refine g_icmp_eq (tgt := 50) C dX6_areTwins_12 (by decide) h ?_ ?_
      · clear h; intro hc12 h
        refine g_iinc (lv' := fun y => [(4, .int y), (0, .ref (ad 25)), (1, .int v1), (2, .int v2), (3, .int v3)]) C dX6_areTwins_50 4 rfl rfl (by decide) (fun y => rfl) h ?_
        clear h; intro v22 h
        refine g_goto (tgt := 3) C dX6_areTwins_53 (by decide) ?_
        refine g_sub (lv2 := [(0, .ref (ad 25)), (1, .int v1), (2, .int v2), (3, .int v3), (4, .int v22)]) [1, 2, 3, 4, 0] rfl ?_
        exact ih _ h
      · clear h; intro hc12 h
        refine g_iload C dX6_areTwins_15 4 rfl ?_
        refine g_iload_n C dX6_areTwins_17 rfl 2 rfl ?_
        refine g_icmp_eq (tgt := 50) C dX6_areTwins_18 (by decide) h ?_ ?_
        · clear h; intro hc18 h
          refine g_iinc (lv' := fun y => [(4, .int y), (0, .ref (ad 25)), (1, .int v1), (2, .int v2), (3, .int v3)]) C dX6_areTwins_50 4 rfl rfl (by decide) (fun y => rfl) h ?_
          clear h; intro v23 h
          refine g_goto (tgt := 3) C dX6_areTwins_53 (by decide) ?_
          refine g_sub (lv2 := [(0, .ref (ad 25)), (1, .int v1), (2, .int v2), (3, .int v3), (4, .int v23)]) [1, 2, 3, 4, 0] rfl ?_
          exact ih _ h
        · clear h; intro hc18 h
          refine g_aload_n C dX6_areTwins_21 rfl 0 rfl ?_
          refine g_getR (k2 := 27) C ok6 dX6_areTwins_22 (hL 25 rfl) rfl 1 (by decide) lk_X6_15 rfl rfl ?_
          refine g_iload C dX6_areTwins_25 4 rfl ?_
          refine g_bipush (v := (8 : Int32)) C dX6_areTwins_27 (by decide) ?_
          refine g_imul C dX6_areTwins_29 ?_
          refine g_iload_n C dX6_areTwins_30 rfl 1 rfl ?_
          refine g_iadd C dX6_areTwins_31 ?_
          refine g_iald C dX6_areTwins_32 (hL 27 rfl) rfl rfl h ?_
          clear h; intro h
          refine g_aload_n C dX6_areTwins_33 rfl 0 rfl ?_
          refine g_getR (k2 := 27) C ok6 dX6_areTwins_34 (hL 25 rfl) rfl 1 (by decide) lk_X6_15 rfl rfl ?_
          refine g_iload C dX6_areTwins_37 4 rfl ?_
          refine g_bipush (v := (8 : Int32)) C dX6_areTwins_39 (by decide) ?_
          refine g_imul C dX6_areTwins_41 ?_
          refine g_iload_n C dX6_areTwins_42 rfl 2 rfl ?_
          refine g_iadd C dX6_areTwins_43 ?_
          refine g_iald C dX6_areTwins_44 (hL 27 rfl) rfl rfl h ?_
          clear h; intro h
          refine g_icmp_eq (tgt := 50) C dX6_areTwins_45 (by decide) h ?_ ?_
          · clear h; intro hc45 h
            refine g_iinc (lv' := fun y => [(4, .int y), (0, .ref (ad 25)), (1, .int v1), (2, .int v2), (3, .int v3)]) C dX6_areTwins_50 4 rfl rfl (by decide) (fun y => rfl) h ?_
            clear h; intro v24 h
            refine g_goto (tgt := 3) C dX6_areTwins_53 (by decide) ?_
            refine g_sub (lv2 := [(0, .ref (ad 25)), (1, .int v1), (2, .int v2), (3, .int v3), (4, .int v24)]) [1, 2, 3, 4, 0] rfl ?_
            exact ih _ h
          · clear h; intro hc45 h
            refine g_iconst (v := (0 : Int32)) C dX6_areTwins_48 (by decide) ?_
            exact g_zretLP C hr hlk rfl dX6_areTwins_49 h
set_option maxHeartbeats 4000000 in
set_option maxRecDepth 100000 in
theorem ct_X6_areTwins {N : Nat} (hL : ∀ k, prF k = true → k ∈ L) {v1 : Int32} {v2 : Int32} {v3 : Int32} {st : St} {r' : Int32} (h : F_X6_areTwins N v1 v2 v3 st = some r') : Ct l D cy ad A L yX6_areTwins cX6_areTwins 5 (some .boolean) 1 [.ref (ad 25), .int v1, .int v2, .int v3] st (some (.int r')) st := by
  unfold F_X6_areTwins at h
  refine ct_of (own := RX6) (by decide) rfl (Nat.le_of_ble_eq_true rfl) ?_
  intro p e s m args below meth c C hr hlk
  refine g_sub (lv2 := [(0, .ref (ad 25)), (1, .int v1), (2, .int v2), (3, .int v3)]) [0, 1, 2, 3] rfl ?_
  refine g_iconst (v := (0 : Int32)) C dX6_areTwins_0 (by decide) ?_
  refine g_istore (lv' := fun y => [(4, .int y), (0, .ref (ad 25)), (1, .int v1), (2, .int v2), (3, .int v3)]) C dX6_areTwins_1 (by decide) (fun y => rfl) h ?_
  clear h; intro v21 h
  refine g_sub (lv2 := [(0, .ref (ad 25)), (1, .int v1), (2, .int v2), (3, .int v3), (4, .int v21)]) [1, 2, 3, 4, 0] rfl ?_
  refine wlp_X6_areTwins_3 (N := N) C hr hlk hL  _ _ h
-- X1_findTwins
def lpB_X1_findTwins_19 (N : Nat) (v1 : Int32) (K58 : St → Option (St)) (self : Int32 → St → Option (St)) (v2 : Int32) (st : St) : Option (St) :=
  (if v1 ≤ v2 then K58 st else bs (F_X6_areTwins N v2 v1 (st 33 4) st) (fun (r24 : Int32) => (if r24 = 0 then lt (v2 + (1 : Int32)) (fun (v25 : Int32) => self v25 st) else ck (inb v1 7) (ck (inb v1 7) (lt (up st 36 v1.toNatClampNeg ((st 36 v1.toNatClampNeg) ||| ((1 : Int32) <<< (v2 &&& 31)))) (fun (s26 : St) => lt (v2 + (1 : Int32)) (fun (v27 : Int32) => self v27 s26)))))))
def lp_X1_findTwins_19 (N : Nat) (v1 : Int32) (K58 : St → Option (St)) : Nat → Int32 → St → Option (St) := itf (lpB_X1_findTwins_19 N v1 K58) (fun _ _ => none)
def lpB_X1_findTwins_2 (N : Nat) (self : Int32 → St → Option (St)) (v1 : Int32) (st : St) : Option (St) :=
  (if (st 33 4) ≤ v1 then some st else ck (inb v1 7) (lt (up st 36 v1.toNatClampNeg (0 : Int32)) (fun (s22 : St) => lt (0 : Int32) (fun (v23 : Int32) => lp_X1_findTwins_19 N v1 (fun (s28 : St) => lt (v1 + (1 : Int32)) (fun (v29 : Int32) => self v29 s28)) N v23 s22))))
def lp_X1_findTwins_2 (N : Nat) : Nat → Int32 → St → Option (St) := itf (lpB_X1_findTwins_2 N) (fun _ _ => none)
def F_X1_findTwins (N : Nat) (st : St) : Option (St) :=
  lt (0 : Int32) (fun (v21 : Int32) => lp_X1_findTwins_2 N  N v21 st)
set_option maxHeartbeats 4000000 in
set_option maxRecDepth 100000 in
theorem wlp_X1_findTwins_19 (C : Cx p s m args c cX1_findTwins RX1 3 D cy ad A L) (hr : meth.sig.returnType = none) (hlk : meth.locks = false) (hL : ∀ k, prF k = true → k ∈ L) {N : Nat} {v1 : Int32} {st' : St} {K58 : St → Option (St)} (hK58 : ∀  (st : St), K58 st = some st' → Gm p l e (rmD 2) s m args below meth c D cy ad A L 3 0 0 (MQ below (QG D cy ad A L none st') args s 0 0 A) 58 [(0, .ref (ad 33)), (1, .int v1)] [] st) : ∀ (n : Nat) (v2 : Int32) (st : St), lp_X1_findTwins_19 N v1 K58 n v2 st = some st' → Gm p l e (rmD 2) s m args below meth c D cy ad A L 3 0 0 (MQ below (QG D cy ad A L none st') args s 0 0 A) 19 [(0, .ref (ad 33)), (1, .int v1), (2, .int v2)] [] st := by
  intro n
  induction n with
  | zero => intro v2 st h; cases h
  | succ n ih =>
    intro v2 st h
    change lpB_X1_findTwins_19 N v1 K58 (lp_X1_findTwins_19 N v1 K58 n) v2 st = some _ at h
    unfold lpB_X1_findTwins_19 at h
    refine g_iload_n C dX1_findTwins_19 rfl 2 rfl ?_
    refine g_iload_n C dX1_findTwins_20 rfl 1 rfl ?_
    refine g_icmp_ge (tgt := 58) C dX1_findTwins_21 (by decide) h ?_ ?_
    · clear h; intro hc21 h
      refine g_sub (lv2 := [(0, .ref (ad 33)), (1, .int v1)]) [0, 1] rfl ?_
      exact hK58 _ h
    · clear h; intro hc21 h
      refine g_aload_n C dX1_findTwins_24 rfl 0 rfl ?_
      refine g_getR (k2 := 25) C ok1 dX1_findTwins_25 (hL 33 rfl) rfl 0 (by decide) lk_X1_21 rfl rfl ?_
      refine g_iload_n C dX1_findTwins_28 rfl 2 rfl ?_
      refine g_iload_n C dX1_findTwins_29 rfl 1 rfl ?_
      refine g_aload_n C dX1_findTwins_30 rfl 0 rfl ?_
      refine g_getI C ok1 dX1_findTwins_31 (hL 33 rfl) rfl 4 (by decide) lk_X1_37 rfl ?_
      replace h := bs_some h
      obtain ⟨r24, h1, h⟩ := h
      refine g_cV (As := [.int v2, .int v1, .int (st 33 4)]) (rest := []) (stk2 := [.int r24]) C mf_X6_areTwins ok6 rfl lk_X1_51 in_X6_areTwins se_X6_areTwins dX1_findTwins_34 (hL 25 rfl) rfl rfl rfl rfl ⟨Nat.le_of_ble_eq_true rfl, Nat.le_of_ble_eq_true rfl⟩ (Nat.le_of_ble_eq_true rfl) ⟨Nat.le_refl 0, Nat.le_refl 0⟩ (ct_X6_areTwins hL h1) ?_
      refine g_if_eq (tgt := 52) C dX1_findTwins_37 (by decide) h ?_ ?_
      · clear h; intro hc37 h
        refine g_iinc (lv' := fun y => [(2, .int y), (0, .ref (ad 33)), (1, .int v1)]) C dX1_findTwins_52 2 rfl rfl (by decide) (fun y => rfl) h ?_
        clear h; intro v25 h
        refine g_goto (tgt := 19) C dX1_findTwins_55 (by decide) ?_
        refine g_sub (lv2 := [(0, .ref (ad 33)), (1, .int v1), (2, .int v25)]) [1, 2, 0] rfl ?_
        exact ih _ _ h
      · clear h; intro hc37 h
        refine g_aload_n C dX1_findTwins_40 rfl 0 rfl ?_
        refine g_getR (k2 := 36) C ok1 dX1_findTwins_41 (hL 33 rfl) rfl 3 (by decide) lk_X1_18 rfl rfl ?_
        refine g_iload_n C dX1_findTwins_44 rfl 1 rfl ?_
        refine g_dup2 C dX1_findTwins_45 rfl rfl ?_
        refine g_iald C dX1_findTwins_46 (hL 36 rfl) rfl rfl h ?_
        clear h; intro h
        refine g_iconst (v := (1 : Int32)) C dX1_findTwins_47 (by decide) ?_
        refine g_iload_n C dX1_findTwins_48 rfl 2 rfl ?_
        refine g_ishl C dX1_findTwins_49 ?_
        refine g_ior C dX1_findTwins_50 ?_
        refine g_iast C dX1_findTwins_51 (hL 36 rfl) rfl rfl h ?_
        clear h; intro s26 h
        refine g_iinc (lv' := fun y => [(2, .int y), (0, .ref (ad 33)), (1, .int v1)]) C dX1_findTwins_52 2 rfl rfl (by decide) (fun y => rfl) h ?_
        clear h; intro v27 h
        refine g_goto (tgt := 19) C dX1_findTwins_55 (by decide) ?_
        refine g_sub (lv2 := [(0, .ref (ad 33)), (1, .int v1), (2, .int v27)]) [1, 2, 0] rfl ?_
        exact ih _ _ h
set_option maxHeartbeats 4000000 in
set_option maxRecDepth 100000 in
theorem wlp_X1_findTwins_2 (C : Cx p s m args c cX1_findTwins RX1 3 D cy ad A L) (hr : meth.sig.returnType = none) (hlk : meth.locks = false) (hL : ∀ k, prF k = true → k ∈ L) {N : Nat} {st' : St} : ∀ (n : Nat) (v1 : Int32) (st : St), lp_X1_findTwins_2 N n v1 st = some st' → Gm p l e (rmD 2) s m args below meth c D cy ad A L 3 0 0 (MQ below (QG D cy ad A L none st') args s 0 0 A) 2 [(0, .ref (ad 33)), (1, .int v1)] [] st := by
  intro n
  induction n with
  | zero => intro v1 st h; cases h
  | succ n ih =>
    intro v1 st h
    change lpB_X1_findTwins_2 N (lp_X1_findTwins_2 N n) v1 st = some _ at h
    unfold lpB_X1_findTwins_2 at h
    refine g_iload_n C dX1_findTwins_2 rfl 1 rfl ?_
    refine g_aload_n C dX1_findTwins_3 rfl 0 rfl ?_
    refine g_getI C ok1 dX1_findTwins_4 (hL 33 rfl) rfl 4 (by decide) lk_X1_37 rfl ?_
    refine g_icmp_ge (tgt := 64) C dX1_findTwins_7 (by decide) h ?_ ?_
    · clear h; intro hc7 h
      exact g_vret C hr hlk dX1_findTwins_64 h
    · clear h; intro hc7 h
      refine g_aload_n C dX1_findTwins_10 rfl 0 rfl ?_
      refine g_getR (k2 := 36) C ok1 dX1_findTwins_11 (hL 33 rfl) rfl 3 (by decide) lk_X1_18 rfl rfl ?_
      refine g_iload_n C dX1_findTwins_14 rfl 1 rfl ?_
      refine g_iconst (v := (0 : Int32)) C dX1_findTwins_15 (by decide) ?_
      refine g_iast C dX1_findTwins_16 (hL 36 rfl) rfl rfl h ?_
      clear h; intro s22 h
      refine g_iconst (v := (0 : Int32)) C dX1_findTwins_17 (by decide) ?_
      refine g_istore_n (lv' := fun y => [(2, .int y), (0, .ref (ad 33)), (1, .int v1)]) C dX1_findTwins_18 rfl (by decide) (fun y => rfl) h ?_
      clear h; intro v23 h
      refine g_sub (lv2 := [(0, .ref (ad 33)), (1, .int v1), (2, .int v23)]) [1, 2, 0] rfl ?_
      refine wlp_X1_findTwins_19 (N := N) C hr hlk hL ?_ _ _ _ h
      · intro s28 h
        refine g_iinc (lv' := fun y => [(1, .int y), (0, .ref (ad 33))]) C dX1_findTwins_58 1 rfl rfl (by decide) (fun y => rfl) h ?_
        clear h; intro v29 h
        refine g_goto (tgt := 2) C dX1_findTwins_61 (by decide) ?_
        refine g_sub (lv2 := [(0, .ref (ad 33)), (1, .int v29)]) [1, 0] rfl ?_
        exact ih _ _ h
set_option maxHeartbeats 4000000 in
set_option maxRecDepth 100000 in
theorem ct_X1_findTwins {N : Nat} (hL : ∀ k, prF k = true → k ∈ L) {st st' : St} (h : F_X1_findTwins N st = some st') : Ct l D cy ad A L yX1_findTwins cX1_findTwins 3 none 2 [.ref (ad 33)] st none st' := by
  unfold F_X1_findTwins at h
  refine ct_of (own := RX1) (by decide) rfl (Nat.le_of_ble_eq_true rfl) ?_
  intro p e s m args below meth c C hr hlk
  refine g_sub (lv2 := [(0, .ref (ad 33))]) [0] rfl ?_
  refine g_iconst (v := (0 : Int32)) C dX1_findTwins_0 (by decide) ?_
  refine g_istore_n (lv' := fun y => [(1, .int y), (0, .ref (ad 33))]) C dX1_findTwins_1 rfl (by decide) (fun y => rfl) h ?_
  clear h; intro v21 h
  refine g_sub (lv2 := [(0, .ref (ad 33)), (1, .int v21)]) [1, 0] rfl ?_
  refine wlp_X1_findTwins_2 (N := N) C hr hlk hL  _ _ _ h
-- X6_pairCost
def lpB_X6_pairCost_13 (v1 : Int32) (v4 : Int32) (a : Nat) (st : St) (self : Int32 → Int32 → Option (Int32)) (v3 : Int32) (v5 : Int32) : Option (Int32) :=
  (if v1 ≤ v5 then some v3 else ck (inb ((v1 * (7 : Int32)) + v5) 49) (ck (inb v5 (ln a)) (ck (inb (v4 + (st a v5.toNatClampNeg)) 64) (lt (v3 + ((st 26 ((v1 * (7 : Int32)) + v5).toNatClampNeg) * (st 27 (v4 + (st a v5.toNatClampNeg)).toNatClampNeg))) (fun (v24 : Int32) => lt (v5 + (1 : Int32)) (fun (v25 : Int32) => self v24 v25))))))
def lp_X6_pairCost_13 (v1 : Int32) (v4 : Int32) (a : Nat) (st : St) : Nat → Int32 → Int32 → Option (Int32) := itf (lpB_X6_pairCost_13 v1 v4 a st) (fun _ _ => none)
def F_X6_pairCost (N : Nat) (v1 : Int32) (a : Nat) (st : St) : Option (Int32) :=
  ck (decide (kd a = 9)) (lt (0 : Int32) (fun (v21 : Int32) => ck (inb v1 (ln a)) (lt ((st a v1.toNatClampNeg) * (8 : Int32)) (fun (v22 : Int32) => lt (0 : Int32) (fun (v23 : Int32) => lp_X6_pairCost_13 v1 v22 a st  N v21 v23)))))
set_option maxHeartbeats 4000000 in
set_option maxRecDepth 100000 in
theorem wlp_X6_pairCost_13 (C : Cx p s m args c cX6_pairCost RX6 6 D cy ad A L) (hr : meth.sig.returnType = (some .int)) (hlk : meth.locks = false) (hL : ∀ k, prF k = true → k ∈ L) {N : Nat} {v1 : Int32} {v4 : Int32} {a : Nat} (kd_a : kd a = 9) {r' : Int32}  {st : St} : ∀ (n : Nat) (v3 : Int32) (v5 : Int32), lp_X6_pairCost_13 v1 v4 a st n v3 v5 = some r' → Gm p l e (rmD 1) s m args below meth c D cy ad A L 6 0 0 (MQ below (QG D cy ad A L (some (.int r')) st) args s 0 0 A) 13 [(0, .ref (ad 25)), (1, .int v1), (2, .ref (ad a)), (3, .int v3), (4, .int v4), (5, .int v5)] [] st := by
  intro n
  induction n with
  | zero => intro v3 v5 h; cases h
  | succ n ih =>
    intro v3 v5 h
    change lpB_X6_pairCost_13 v1 v4 a st (lp_X6_pairCost_13 v1 v4 a st n) v3 v5 = some _ at h
    unfold lpB_X6_pairCost_13 at h
    refine g_iload C dX6_pairCost_13 5 rfl ?_
    refine g_iload_n C dX6_pairCost_15 rfl 1 rfl ?_
    refine g_icmp_ge (tgt := 53) C dX6_pairCost_16 (by decide) h ?_ ?_
    · clear h; intro hc16 h
      refine g_iload_n C dX6_pairCost_53 rfl 3 rfl ?_
      exact g_iretP C hr hlk dX6_pairCost_54 h
    · clear h; intro hc16 h
      refine g_iload_n C dX6_pairCost_19 rfl 3 rfl ?_
      refine g_aload_n C dX6_pairCost_20 rfl 0 rfl ?_
      refine g_getR (k2 := 26) C ok6 dX6_pairCost_21 (hL 25 rfl) rfl 0 (by decide) lk_X6_9 rfl rfl ?_
      refine g_iload_n C dX6_pairCost_24 rfl 1 rfl ?_
      refine g_bipush (v := (7 : Int32)) C dX6_pairCost_25 (by decide) ?_
      refine g_imul C dX6_pairCost_27 ?_
      refine g_iload C dX6_pairCost_28 5 rfl ?_
      refine g_iadd C dX6_pairCost_30 ?_
      refine g_iald C dX6_pairCost_31 (hL 26 rfl) rfl rfl h ?_
      clear h; intro h
      refine g_aload_n C dX6_pairCost_32 rfl 0 rfl ?_
      refine g_getR (k2 := 27) C ok6 dX6_pairCost_33 (hL 25 rfl) rfl 1 (by decide) lk_X6_15 rfl rfl ?_
      refine g_iload C dX6_pairCost_36 4 rfl ?_
      refine g_aload_n C dX6_pairCost_38 rfl 2 rfl ?_
      refine g_iload C dX6_pairCost_39 5 rfl ?_
      refine g_iald C dX6_pairCost_41 (hL _ (prF_of kd_a (by decide))) kd_a rfl h ?_
      clear h; intro h
      refine g_iadd C dX6_pairCost_42 ?_
      refine g_iald C dX6_pairCost_43 (hL 27 rfl) rfl rfl h ?_
      clear h; intro h
      refine g_imul C dX6_pairCost_44 ?_
      refine g_iadd C dX6_pairCost_45 ?_
      refine g_istore_n (lv' := fun y => [(3, .int y), (0, .ref (ad 25)), (1, .int v1), (2, .ref (ad a)), (4, .int v4), (5, .int v5)]) C dX6_pairCost_46 rfl (by decide) (fun y => rfl) h ?_
      clear h; intro v24 h
      refine g_iinc (lv' := fun y => [(5, .int y), (3, .int v24), (0, .ref (ad 25)), (1, .int v1), (2, .ref (ad a)), (4, .int v4)]) C dX6_pairCost_47 5 rfl rfl (by decide) (fun y => rfl) h ?_
      clear h; intro v25 h
      refine g_goto (tgt := 13) C dX6_pairCost_50 (by decide) ?_
      refine g_sub (lv2 := [(0, .ref (ad 25)), (1, .int v1), (2, .ref (ad a)), (3, .int v24), (4, .int v4), (5, .int v25)]) [2, 3, 4, 1, 5, 0] rfl ?_
      exact ih _ _ h
set_option maxHeartbeats 4000000 in
set_option maxRecDepth 100000 in
theorem ct_X6_pairCost {N : Nat} (hL : ∀ k, prF k = true → k ∈ L) {v1 : Int32} {a : Nat} {st : St} {r' : Int32} (h : F_X6_pairCost N v1 a st = some r') : Ct l D cy ad A L yX6_pairCost cX6_pairCost 6 (some .int) 1 [.ref (ad 25), .int v1, .ref (ad a)] st (some (.int r')) st := by
  unfold F_X6_pairCost at h
  refine ct_of (own := RX6) (by decide) rfl (Nat.le_of_ble_eq_true rfl) ?_
  intro p e s m args below meth c C hr hlk
  refine g_sub (lv2 := [(0, .ref (ad 25)), (1, .int v1), (2, .ref (ad a))]) [0, 1, 2] rfl ?_
  replace h := ck_some h
  obtain ⟨hg_a, h⟩ := h
  have kd_a : kd a = 9 := of_decide_eq_true hg_a
  refine g_iconst (v := (0 : Int32)) C dX6_pairCost_0 (by decide) ?_
  refine g_istore_n (lv' := fun y => [(3, .int y), (0, .ref (ad 25)), (1, .int v1), (2, .ref (ad a))]) C dX6_pairCost_1 rfl (by decide) (fun y => rfl) h ?_
  clear h; intro v21 h
  refine g_aload_n C dX6_pairCost_2 rfl 3 rfl ?_
  refine g_iload_n C dX6_pairCost_3 rfl 2 rfl ?_
  refine g_iald C dX6_pairCost_4 (hL _ (prF_of kd_a (by decide))) kd_a rfl h ?_
  clear h; intro h
  refine g_bipush (v := (8 : Int32)) C dX6_pairCost_5 (by decide) ?_
  refine g_imul C dX6_pairCost_7 ?_
  refine g_istore (lv' := fun y => [(4, .int y), (3, .int v21), (0, .ref (ad 25)), (1, .int v1), (2, .ref (ad a))]) C dX6_pairCost_8 (by decide) (fun y => rfl) h ?_
  clear h; intro v22 h
  refine g_iconst (v := (0 : Int32)) C dX6_pairCost_10 (by decide) ?_
  refine g_istore (lv' := fun y => [(5, .int y), (4, .int v22), (3, .int v21), (0, .ref (ad 25)), (1, .int v1), (2, .ref (ad a))]) C dX6_pairCost_11 (by decide) (fun y => rfl) h ?_
  clear h; intro v23 h
  refine g_sub (lv2 := [(0, .ref (ad 25)), (1, .int v1), (2, .ref (ad a)), (3, .int v21), (4, .int v22), (5, .int v23)]) [3, 4, 5, 2, 1, 0] rfl ?_
  refine wlp_X6_pairCost_13 (N := N) C hr hlk hL kd_a  _ _ _ h
-- X6_forkCost
def lpB_X6_forkCost_18 (a : Nat) (st : St) (K193 : Int32 → Int32 → Option (Int32)) (self : Int32 → Int32 → Int32 → Int32 → Int32 → Int32 → Option (Int32)) (v2 : Int32) (v3 : Int32) (v4 : Int32) (v5 : Int32) (v6 : Int32) (v7 : Int32) : Option (Int32) :=
  (if (st 25 6) ≤ v7 then K193 v5 v6 else ck (inb v7 20) (ck (inb (st 29 v7.toNatClampNeg) (ln a)) (lt (st a (st 29 v7.toNatClampNeg).toNatClampNeg) (fun (v27 : Int32) => ck (inb v7 20) (lt (fun (v28 : Int32) (v29 : Int32) (v30 : Int32) (v31 : Int32) => ck (inb ((v28 * (8 : Int32)) + v27) 64) (ck (inb ((v29 * (8 : Int32)) + v27) 64) (lt (if (v31 + (st 27 ((v29 * (8 : Int32)) + v27).toNatClampNeg)) < (v30 + (st 27 ((v28 * (8 : Int32)) + v27).toNatClampNeg)) then (v31 + (st 27 ((v29 * (8 : Int32)) + v27).toNatClampNeg)) else (v30 + (st 27 ((v28 * (8 : Int32)) + v27).toNatClampNeg))) (fun (v33 : Int32) => ck (inb v7 20) ((if (st 30 v7.toNatClampNeg) = (-1 : Int32) then lt v33 (fun (v40 : Int32) => lt v33 (fun (v41 : Int32) => lt v33 (fun (v42 : Int32) => lt (v7 + (1 : Int32)) (fun (v43 : Int32) => self v40 v28 v29 v41 v42 v43)))) else ck (inb v7 20) (ck (inb (st 30 v7.toNatClampNeg) (ln a)) (lt (st a (st 30 v7.toNatClampNeg).toNatClampNeg) (fun (v34 : Int32) => ck (inb ((v28 * (8 : Int32)) + v34) 64) (ck (inb ((v29 * (8 : Int32)) + v34) 64) (lt (if (v31 + (st 27 ((v29 * (8 : Int32)) + v34).toNatClampNeg)) < (v30 + (st 27 ((v28 * (8 : Int32)) + v34).toNatClampNeg)) then (v31 + (st 27 ((v29 * (8 : Int32)) + v34).toNatClampNeg)) else (v30 + (st 27 ((v28 * (8 : Int32)) + v34).toNatClampNeg))) (fun (v35 : Int32) => lt v33 (fun (v36 : Int32) => lt v34 (fun (v37 : Int32) => lt v27 (fun (v38 : Int32) => lt (v7 + (1 : Int32)) (fun (v39 : Int32) => self v2 v37 v38 v36 v35 v39)))))))))))))))) (fun (j32 : Int32 → Int32 → Int32 → Int32 → Option (Int32)) => (if (st 28 v7.toNatClampNeg) = (-1 : Int32) then j32 v3 v4 v5 v6 else ck (inb v7 20) (ck (inb (st 28 v7.toNatClampNeg) (ln a)) (lt (st a (st 28 v7.toNatClampNeg).toNatClampNeg) (fun (v44 : Int32) => lt v44 (fun (v45 : Int32) => lt v2 (fun (v46 : Int32) => lt v2 (fun (v47 : Int32) => j32 v44 v45 v46 v47)))))))))))))
def lp_X6_forkCost_18 (a : Nat) (st : St) (K193 : Int32 → Int32 → Option (Int32)) : Nat → Int32 → Int32 → Int32 → Int32 → Int32 → Int32 → Option (Int32) := itf (lpB_X6_forkCost_18 a st K193) (fun _ _ _ _ _ _ => none)
def F_X6_forkCost (N : Nat) (a : Nat) (st : St) : Option (Int32) :=
  ck (decide (kd a = 9)) (lt (0 : Int32) (fun (v21 : Int32) => lt (7 : Int32) (fun (v22 : Int32) => lt (7 : Int32) (fun (v23 : Int32) => lt (0 : Int32) (fun (v24 : Int32) => lt (0 : Int32) (fun (v25 : Int32) => lt (0 : Int32) (fun (v26 : Int32) => lp_X6_forkCost_18 a st (fun (v48 : Int32) (v49 : Int32) => some (if v49 < v48 then v49 else v48)) N v21 v22 v23 v24 v25 v26)))))))
set_option maxHeartbeats 4000000 in
set_option maxRecDepth 100000 in
theorem wlp_X6_forkCost_18 (C : Cx p s m args c cX6_forkCost RX6 11 D cy ad A L) (hr : meth.sig.returnType = (some .int)) (hlk : meth.locks = false) (hL : ∀ k, prF k = true → k ∈ L) {N : Nat} {a : Nat} (kd_a : kd a = 9) {r' : Int32}  {st : St} {K193 : Int32 → Int32 → Option (Int32)} (hK193 : ∀ (v5 : Int32) (v6 : Int32), K193 v5 v6 = some r' → Gm p l e (rmD 1) s m args below meth c D cy ad A L 11 0 0 (MQ below (QG D cy ad A L (some (.int r')) st) args s 0 0 A) 193 [(5, .int v5), (6, .int v6)] [] st) : ∀ (n : Nat) (v2 : Int32) (v3 : Int32) (v4 : Int32) (v5 : Int32) (v6 : Int32) (v7 : Int32), lp_X6_forkCost_18 a st K193 n v2 v3 v4 v5 v6 v7 = some r' → Gm p l e (rmD 1) s m args below meth c D cy ad A L 11 0 0 (MQ below (QG D cy ad A L (some (.int r')) st) args s 0 0 A) 18 [(0, .ref (ad 25)), (1, .ref (ad a)), (2, .int v2), (3, .int v3), (4, .int v4), (5, .int v5), (6, .int v6), (7, .int v7)] [] st := by
  intro n
  induction n with
  | zero => intro v2 v3 v4 v5 v6 v7 h; cases h
  | succ n ih =>
    intro v2 v3 v4 v5 v6 v7 h
    change lpB_X6_forkCost_18 a st K193 (lp_X6_forkCost_18 a st K193 n) v2 v3 v4 v5 v6 v7 = some _ at h
    unfold lpB_X6_forkCost_18 at h
    refine g_iload C dX6_forkCost_18 7 rfl ?_
    refine g_aload_n C dX6_forkCost_20 rfl 0 rfl ?_
    refine g_getI C ok6 dX6_forkCost_21 (hL 25 rfl) rfl 6 (by decide) lk_X6_36 rfl ?_
    refine g_icmp_ge (tgt := 193) C dX6_forkCost_24 (by decide) h ?_ ?_
    · clear h; intro hc24 h
      refine g_sub (lv2 := [(5, .int v5), (6, .int v6)]) [5, 6] rfl ?_
      exact hK193 _ _ h
    · clear h; intro hc24 h
      refine g_aload_n C dX6_forkCost_27 rfl 1 rfl ?_
      refine g_aload_n C dX6_forkCost_28 rfl 0 rfl ?_
      refine g_getR (k2 := 29) C ok6 dX6_forkCost_29 (hL 25 rfl) rfl 3 (by decide) lk_X6_21 rfl rfl ?_
      refine g_iload C dX6_forkCost_32 7 rfl ?_
      refine g_iald C dX6_forkCost_34 (hL 29 rfl) rfl rfl h ?_
      clear h; intro h
      refine g_iald C dX6_forkCost_35 (hL _ (prF_of kd_a (by decide))) kd_a rfl h ?_
      clear h; intro h
      refine g_istore (lv' := fun y => [(8, .int y), (0, .ref (ad 25)), (1, .ref (ad a)), (2, .int v2), (3, .int v3), (4, .int v4), (5, .int v5), (6, .int v6), (7, .int v7)]) C dX6_forkCost_36 (by decide) (fun y => rfl) h ?_
      clear h; intro v27 h
      refine g_aload_n C dX6_forkCost_38 rfl 1 rfl ?_
      refine g_getR (k2 := 28) C ok6 dX6_forkCost_39 (hL 25 rfl) rfl 2 (by decide) lk_X6_18 rfl rfl ?_
      refine g_iload C dX6_forkCost_42 8 rfl ?_
      refine g_iald C dX6_forkCost_44 (hL 28 rfl) rfl rfl h ?_
      clear h; intro h
      refine g_iconst (v := (-1 : Int32)) C dX6_forkCost_45 (by decide) ?_
      replace h := lt_ex h
      obtain ⟨j32, ej32, h⟩ := h
      have hj32 : ∀ (v28 : Int32) (v29 : Int32) (v30 : Int32) (v31 : Int32), j32 v28 v29 v30 v31 = some r' → Gm p l e (rmD 1) s m args below meth c D cy ad A L 11 0 0 (MQ below (QG D cy ad A L (some (.int r')) st) args s 0 0 A) 68 [(0, .ref (ad 25)), (1, .ref (ad a)), (2, .int v2), (3, .int v28), (4, .int v29), (5, .int v30), (6, .int v31), (7, .int v7), (8, .int v27)] [] st := by
        intro v28 v29 v30 v31 h
        rw [ej32] at h
        dsimp only at h
        refine g_iload C dX6_forkCost_68 5 rfl ?_
        refine g_aload_n C dX6_forkCost_70 rfl 0 rfl ?_
        refine g_getR (k2 := 27) C ok6 dX6_forkCost_71 (hL 25 rfl) rfl 1 (by decide) lk_X6_15 rfl rfl ?_
        refine g_iload_n C dX6_forkCost_74 rfl 3 rfl ?_
        refine g_bipush (v := (8 : Int32)) C dX6_forkCost_75 (by decide) ?_
        refine g_imul C dX6_forkCost_77 ?_
        refine g_iload C dX6_forkCost_78 8 rfl ?_
        refine g_iadd C dX6_forkCost_80 ?_
        refine g_iald C dX6_forkCost_81 (hL 27 rfl) rfl rfl h ?_
        clear h; intro h
        refine g_iadd C dX6_forkCost_82 ?_
        refine g_iload C dX6_forkCost_83 6 rfl ?_
        refine g_aload_n C dX6_forkCost_85 rfl 0 rfl ?_
        refine g_getR (k2 := 27) C ok6 dX6_forkCost_86 (hL 25 rfl) rfl 1 (by decide) lk_X6_15 rfl rfl ?_
        refine g_iload C dX6_forkCost_89 4 rfl ?_
        refine g_bipush (v := (8 : Int32)) C dX6_forkCost_91 (by decide) ?_
        refine g_imul C dX6_forkCost_93 ?_
        refine g_iload C dX6_forkCost_94 8 rfl ?_
        refine g_iadd C dX6_forkCost_96 ?_
        refine g_iald C dX6_forkCost_97 (hL 27 rfl) rfl rfl h ?_
        clear h; intro h
        refine g_iadd C dX6_forkCost_98 ?_
        refine g_min C lk_X6_90 sm_min ini_Math cd_min ⟨Nat.le_of_ble_eq_true rfl, Nat.le_of_ble_eq_true rfl, Nat.le_refl 0, Nat.le_refl 0⟩ dX6_forkCost_99 ?_
        refine g_istore (lv' := fun y => [(9, .int y), (0, .ref (ad 25)), (1, .ref (ad a)), (2, .int v2), (3, .int v28), (4, .int v29), (5, .int v30), (6, .int v31), (7, .int v7), (8, .int v27)]) C dX6_forkCost_102 (by decide) (fun y => rfl) h ?_
        clear h; intro v33 h
        refine g_aload_n C dX6_forkCost_104 rfl 1 rfl ?_
        refine g_getR (k2 := 30) C ok6 dX6_forkCost_105 (hL 25 rfl) rfl 4 (by decide) lk_X6_24 rfl rfl ?_
        refine g_iload C dX6_forkCost_108 8 rfl ?_
        refine g_iald C dX6_forkCost_110 (hL 30 rfl) rfl rfl h ?_
        clear h; intro h
        refine g_iconst (v := (-1 : Int32)) C dX6_forkCost_111 (by decide) ?_
        refine g_icmp_ne (tgt := 129) C dX6_forkCost_112 (by decide) h ?_ ?_
        · clear h; intro hc112 h
          refine g_aload_n C dX6_forkCost_129 rfl 2 rfl ?_
          refine g_aload_n C dX6_forkCost_130 rfl 1 rfl ?_
          refine g_getR (k2 := 30) C ok6 dX6_forkCost_131 (hL 25 rfl) rfl 4 (by decide) lk_X6_24 rfl rfl ?_
          refine g_iload C dX6_forkCost_134 8 rfl ?_
          refine g_iald C dX6_forkCost_136 (hL 30 rfl) rfl rfl h ?_
          clear h; intro h
          refine g_iald C dX6_forkCost_137 (hL _ (prF_of kd_a (by decide))) kd_a rfl h ?_
          clear h; intro h
          refine g_istore (lv' := fun y => [(10, .int y), (9, .int v33), (0, .ref (ad 25)), (1, .ref (ad a)), (2, .int v2), (3, .int v28), (4, .int v29), (5, .int v30), (6, .int v31), (7, .int v7), (8, .int v27)]) C dX6_forkCost_138 (by decide) (fun y => rfl) h ?_
          clear h; intro v34 h
          refine g_iload C dX6_forkCost_140 7 rfl ?_
          refine g_aload_n C dX6_forkCost_142 rfl 2 rfl ?_
          refine g_getR (k2 := 27) C ok6 dX6_forkCost_143 (hL 25 rfl) rfl 1 (by decide) lk_X6_15 rfl rfl ?_
          refine g_iload_n C dX6_forkCost_146 rfl 5 rfl ?_
          refine g_bipush (v := (8 : Int32)) C dX6_forkCost_147 (by decide) ?_
          refine g_imul C dX6_forkCost_149 ?_
          refine g_iload C dX6_forkCost_150 0 rfl ?_
          refine g_iadd C dX6_forkCost_152 ?_
          refine g_iald C dX6_forkCost_153 (hL 27 rfl) rfl rfl h ?_
          clear h; intro h
          refine g_iadd C dX6_forkCost_154 ?_
          refine g_iload C dX6_forkCost_155 8 rfl ?_
          refine g_aload_n C dX6_forkCost_157 rfl 2 rfl ?_
          refine g_getR (k2 := 27) C ok6 dX6_forkCost_158 (hL 25 rfl) rfl 1 (by decide) lk_X6_15 rfl rfl ?_
          refine g_iload C dX6_forkCost_161 6 rfl ?_
          refine g_bipush (v := (8 : Int32)) C dX6_forkCost_163 (by decide) ?_
          refine g_imul C dX6_forkCost_165 ?_
          refine g_iload C dX6_forkCost_166 0 rfl ?_
          refine g_iadd C dX6_forkCost_168 ?_
          refine g_iald C dX6_forkCost_169 (hL 27 rfl) rfl rfl h ?_
          clear h; intro h
          refine g_iadd C dX6_forkCost_170 ?_
          refine g_min C lk_X6_90 sm_min ini_Math cd_min ⟨Nat.le_of_ble_eq_true rfl, Nat.le_of_ble_eq_true rfl, Nat.le_refl 0, Nat.le_refl 0⟩ dX6_forkCost_171 ?_
          refine g_istore (lv' := fun y => [(6, .int y), (10, .int v34), (9, .int v33), (0, .ref (ad 25)), (1, .ref (ad a)), (2, .int v2), (3, .int v28), (4, .int v29), (5, .int v30), (7, .int v7), (8, .int v27)]) C dX6_forkCost_174 (by decide) (fun y => rfl) h ?_
          clear h; intro v35 h
          refine g_iload C dX6_forkCost_176 2 rfl ?_
          refine g_istore (lv' := fun y => [(5, .int y), (6, .int v35), (10, .int v34), (9, .int v33), (0, .ref (ad 25)), (1, .ref (ad a)), (2, .int v2), (3, .int v28), (4, .int v29), (7, .int v7), (8, .int v27)]) C dX6_forkCost_178 (by decide) (fun y => rfl) h ?_
          clear h; intro v36 h
          refine g_iload C dX6_forkCost_180 2 rfl ?_
          refine g_istore_n (lv' := fun y => [(3, .int y), (5, .int v36), (6, .int v35), (10, .int v34), (9, .int v33), (0, .ref (ad 25)), (1, .ref (ad a)), (2, .int v2), (4, .int v29), (7, .int v7), (8, .int v27)]) C dX6_forkCost_182 rfl (by decide) (fun y => rfl) h ?_
          clear h; intro v37 h
          refine g_iload C dX6_forkCost_183 10 rfl ?_
          refine g_istore (lv' := fun y => [(4, .int y), (3, .int v37), (5, .int v36), (6, .int v35), (10, .int v34), (9, .int v33), (0, .ref (ad 25)), (1, .ref (ad a)), (2, .int v2), (7, .int v7), (8, .int v27)]) C dX6_forkCost_185 (by decide) (fun y => rfl) h ?_
          clear h; intro v38 h
          refine g_iinc (lv' := fun y => [(7, .int y), (4, .int v38), (3, .int v37), (5, .int v36), (6, .int v35), (10, .int v34), (9, .int v33), (0, .ref (ad 25)), (1, .ref (ad a)), (2, .int v2), (8, .int v27)]) C dX6_forkCost_187 9 rfl rfl (by decide) (fun y => rfl) h ?_
          clear h; intro v39 h
          refine g_goto (tgt := 18) C dX6_forkCost_190 (by decide) ?_
          refine g_sub (lv2 := [(0, .ref (ad 25)), (1, .ref (ad a)), (2, .int v2), (3, .int v37), (4, .int v38), (5, .int v36), (6, .int v35), (7, .int v39)]) [7, 8, 9, 2, 1, 3, 4, 0] rfl ?_
          exact ih _ _ _ _ _ _ h
        · clear h; intro hc112 h
          refine g_iload C dX6_forkCost_115 0 rfl ?_
          refine g_istore_n (lv' := fun y => [(2, .int y), (9, .int v33), (0, .ref (ad 25)), (1, .ref (ad a)), (3, .int v28), (4, .int v29), (5, .int v30), (6, .int v31), (7, .int v7), (8, .int v27)]) C dX6_forkCost_117 rfl (by decide) (fun y => rfl) h ?_
          clear h; intro v40 h
          refine g_iload C dX6_forkCost_118 1 rfl ?_
          refine g_istore (lv' := fun y => [(5, .int y), (2, .int v40), (9, .int v33), (0, .ref (ad 25)), (1, .ref (ad a)), (3, .int v28), (4, .int v29), (6, .int v31), (7, .int v7), (8, .int v27)]) C dX6_forkCost_120 (by decide) (fun y => rfl) h ?_
          clear h; intro v41 h
          refine g_iload C dX6_forkCost_122 2 rfl ?_
          refine g_istore (lv' := fun y => [(6, .int y), (5, .int v41), (2, .int v40), (9, .int v33), (0, .ref (ad 25)), (1, .ref (ad a)), (3, .int v28), (4, .int v29), (7, .int v7), (8, .int v27)]) C dX6_forkCost_124 (by decide) (fun y => rfl) h ?_
          clear h; intro v42 h
          refine g_goto (tgt := 187) C dX6_forkCost_126 (by decide) ?_
          refine g_iinc (lv' := fun y => [(7, .int y), (6, .int v42), (5, .int v41), (2, .int v40), (9, .int v33), (0, .ref (ad 25)), (1, .ref (ad a)), (3, .int v28), (4, .int v29), (8, .int v27)]) C dX6_forkCost_187 8 rfl rfl (by decide) (fun y => rfl) h ?_
          clear h; intro v43 h
          refine g_goto (tgt := 18) C dX6_forkCost_190 (by decide) ?_
          refine g_sub (lv2 := [(0, .ref (ad 25)), (1, .ref (ad a)), (2, .int v40), (3, .int v28), (4, .int v29), (5, .int v41), (6, .int v42), (7, .int v43)]) [5, 6, 3, 7, 8, 2, 1, 0] rfl ?_
          exact ih _ _ _ _ _ _ h
      refine g_icmp_eq (tgt := 68) C dX6_forkCost_46 (by decide) h ?_ ?_
      · clear h; intro hc46 h
        refine g_sub (lv2 := [(0, .ref (ad 25)), (1, .ref (ad a)), (2, .int v2), (3, .int v3), (4, .int v4), (5, .int v5), (6, .int v6), (7, .int v7), (8, .int v27)]) [1, 2, 3, 4, 5, 6, 7, 8, 0] rfl ?_
        exact hj32 _ _ _ _ h
      · clear h; intro hc46 h
        refine g_aload_n C dX6_forkCost_49 rfl 2 rfl ?_
        refine g_aload_n C dX6_forkCost_50 rfl 1 rfl ?_
        refine g_getR (k2 := 28) C ok6 dX6_forkCost_51 (hL 25 rfl) rfl 2 (by decide) lk_X6_18 rfl rfl ?_
        refine g_iload C dX6_forkCost_54 8 rfl ?_
        refine g_iald C dX6_forkCost_56 (hL 28 rfl) rfl rfl h ?_
        clear h; intro h
        refine g_iald C dX6_forkCost_57 (hL _ (prF_of kd_a (by decide))) kd_a rfl h ?_
        clear h; intro h
        refine g_istore_n (lv' := fun y => [(3, .int y), (8, .int v27), (0, .ref (ad 25)), (1, .ref (ad a)), (2, .int v2), (4, .int v4), (5, .int v5), (6, .int v6), (7, .int v7)]) C dX6_forkCost_58 rfl (by decide) (fun y => rfl) h ?_
        clear h; intro v44 h
        refine g_iload_n C dX6_forkCost_59 rfl 0 rfl ?_
        refine g_istore (lv' := fun y => [(4, .int y), (3, .int v44), (8, .int v27), (0, .ref (ad 25)), (1, .ref (ad a)), (2, .int v2), (5, .int v5), (6, .int v6), (7, .int v7)]) C dX6_forkCost_60 (by decide) (fun y => rfl) h ?_
        clear h; intro v45 h
        refine g_iload_n C dX6_forkCost_62 rfl 5 rfl ?_
        refine g_istore (lv' := fun y => [(5, .int y), (4, .int v45), (3, .int v44), (8, .int v27), (0, .ref (ad 25)), (1, .ref (ad a)), (2, .int v2), (6, .int v6), (7, .int v7)]) C dX6_forkCost_63 (by decide) (fun y => rfl) h ?_
        clear h; intro v46 h
        refine g_iload_n C dX6_forkCost_65 rfl 6 rfl ?_
        refine g_istore (lv' := fun y => [(6, .int y), (5, .int v46), (4, .int v45), (3, .int v44), (8, .int v27), (0, .ref (ad 25)), (1, .ref (ad a)), (2, .int v2), (7, .int v7)]) C dX6_forkCost_66 (by decide) (fun y => rfl) h ?_
        clear h; intro v47 h
        refine g_sub (lv2 := [(0, .ref (ad 25)), (1, .ref (ad a)), (2, .int v2), (3, .int v44), (4, .int v45), (5, .int v46), (6, .int v47), (7, .int v7), (8, .int v27)]) [5, 6, 7, 3, 2, 1, 0, 8, 4] rfl ?_
        exact hj32 _ _ _ _ h
set_option maxHeartbeats 4000000 in
set_option maxRecDepth 100000 in
theorem ct_X6_forkCost {N : Nat} (hL : ∀ k, prF k = true → k ∈ L) {a : Nat} {st : St} {r' : Int32} (h : F_X6_forkCost N a st = some r') : Ct l D cy ad A L yX6_forkCost cX6_forkCost 11 (some .int) 1 [.ref (ad 25), .ref (ad a)] st (some (.int r')) st := by
  unfold F_X6_forkCost at h
  refine ct_of (own := RX6) (by decide) rfl (Nat.le_of_ble_eq_true rfl) ?_
  intro p e s m args below meth c C hr hlk
  refine g_sub (lv2 := [(0, .ref (ad 25)), (1, .ref (ad a))]) [0, 1] rfl ?_
  replace h := ck_some h
  obtain ⟨hg_a, h⟩ := h
  have kd_a : kd a = 9 := of_decide_eq_true hg_a
  refine g_iconst (v := (0 : Int32)) C dX6_forkCost_0 (by decide) ?_
  refine g_istore_n (lv' := fun y => [(2, .int y), (0, .ref (ad 25)), (1, .ref (ad a))]) C dX6_forkCost_1 rfl (by decide) (fun y => rfl) h ?_
  clear h; intro v21 h
  refine g_bipush (v := (7 : Int32)) C dX6_forkCost_2 (by decide) ?_
  refine g_istore_n (lv' := fun y => [(3, .int y), (2, .int v21), (0, .ref (ad 25)), (1, .ref (ad a))]) C dX6_forkCost_4 rfl (by decide) (fun y => rfl) h ?_
  clear h; intro v22 h
  refine g_bipush (v := (7 : Int32)) C dX6_forkCost_5 (by decide) ?_
  refine g_istore (lv' := fun y => [(4, .int y), (3, .int v22), (2, .int v21), (0, .ref (ad 25)), (1, .ref (ad a))]) C dX6_forkCost_7 (by decide) (fun y => rfl) h ?_
  clear h; intro v23 h
  refine g_iconst (v := (0 : Int32)) C dX6_forkCost_9 (by decide) ?_
  refine g_istore (lv' := fun y => [(5, .int y), (4, .int v23), (3, .int v22), (2, .int v21), (0, .ref (ad 25)), (1, .ref (ad a))]) C dX6_forkCost_10 (by decide) (fun y => rfl) h ?_
  clear h; intro v24 h
  refine g_iconst (v := (0 : Int32)) C dX6_forkCost_12 (by decide) ?_
  refine g_istore (lv' := fun y => [(6, .int y), (5, .int v24), (4, .int v23), (3, .int v22), (2, .int v21), (0, .ref (ad 25)), (1, .ref (ad a))]) C dX6_forkCost_13 (by decide) (fun y => rfl) h ?_
  clear h; intro v25 h
  refine g_iconst (v := (0 : Int32)) C dX6_forkCost_15 (by decide) ?_
  refine g_istore (lv' := fun y => [(7, .int y), (6, .int v25), (5, .int v24), (4, .int v23), (3, .int v22), (2, .int v21), (0, .ref (ad 25)), (1, .ref (ad a))]) C dX6_forkCost_16 (by decide) (fun y => rfl) h ?_
  clear h; intro v26 h
  refine g_sub (lv2 := [(0, .ref (ad 25)), (1, .ref (ad a)), (2, .int v21), (3, .int v22), (4, .int v23), (5, .int v24), (6, .int v25), (7, .int v26)]) [6, 7, 5, 4, 3, 2, 1, 0] rfl ?_
  refine wlp_X6_forkCost_18 (N := N) C hr hlk hL kd_a ?_ _ _ _ _ _ _ _ h
  · intro v48 v49 h
    refine g_iload C dX6_forkCost_193 0 rfl ?_
    refine g_iload C dX6_forkCost_195 1 rfl ?_
    refine g_min C lk_X6_90 sm_min ini_Math cd_min ⟨Nat.le_of_ble_eq_true rfl, Nat.le_of_ble_eq_true rfl, Nat.le_refl 0, Nat.le_refl 0⟩ dX6_forkCost_197 ?_
    exact g_iretP C hr hlk dX6_forkCost_200 h
-- X1_keep
def lpB_X1_keep_7 (self : Int32 → St → Option (St)) (v1 : Int32) (st : St) : Option (St) :=
  (if (st 33 4) ≤ v1 then some st else ck (inb v1 7) (ck (inb (st 35 v1.toNatClampNeg) 8) (ck (inb v1 7) (lt (up st 33 6 ((st 33 6) ||| ((st 34 (st 35 v1.toNatClampNeg).toNatClampNeg) <<< (((st 35 v1.toNatClampNeg) * (3 : Int32)) &&& 31)))) (fun (s23 : St) => lt (v1 + (1 : Int32)) (fun (v24 : Int32) => self v24 s23))))))
def lp_X1_keep_7 : Nat → Int32 → St → Option (St) := itf (lpB_X1_keep_7) (fun _ _ => none)
def F_X1_keep (N : Nat) (st : St) : Option (St) :=
  lt (up st 33 6 (0 : Int32)) (fun (s21 : St) => lt (0 : Int32) (fun (v22 : Int32) => lp_X1_keep_7  N v22 s21))
set_option maxHeartbeats 4000000 in
set_option maxRecDepth 100000 in
theorem wlp_X1_keep_7 (C : Cx p s m args c cX1_keep RX1 2 D cy ad A L) (hr : meth.sig.returnType = none) (hlk : meth.locks = false) (hL : ∀ k, prF k = true → k ∈ L) {N : Nat} {st' : St} : ∀ (n : Nat) (v1 : Int32) (st : St), lp_X1_keep_7 n v1 st = some st' → Gm p l e (rmD 1) s m args below meth c D cy ad A L 2 0 0 (MQ below (QG D cy ad A L none st') args s 0 0 A) 7 [(0, .ref (ad 33)), (1, .int v1)] [] st := by
  intro n
  induction n with
  | zero => intro v1 st h; cases h
  | succ n ih =>
    intro v1 st h
    change lpB_X1_keep_7 (lp_X1_keep_7 n) v1 st = some _ at h
    unfold lpB_X1_keep_7 at h
    refine g_iload_n C dX1_keep_7 rfl 1 rfl ?_
    refine g_aload_n C dX1_keep_8 rfl 0 rfl ?_
    refine g_getI C ok1 dX1_keep_9 (hL 33 rfl) rfl 4 (by decide) lk_X1_37 rfl ?_
    refine g_icmp_ge (tgt := 50) C dX1_keep_12 (by decide) h ?_ ?_
    · clear h; intro hc12 h
      exact g_vret C hr hlk dX1_keep_50 h
    · clear h; intro hc12 h
      refine g_aload_n C dX1_keep_15 rfl 0 rfl ?_
      refine g_dup C dX1_keep_16 rfl ?_
      refine g_getI C ok1 dX1_keep_17 (hL 33 rfl) rfl 6 (by decide) lk_X1_66 rfl ?_
      refine g_aload_n C dX1_keep_20 rfl 0 rfl ?_
      refine g_getR (k2 := 34) C ok1 dX1_keep_21 (hL 33 rfl) rfl 1 (by decide) lk_X1_11 rfl rfl ?_
      refine g_aload_n C dX1_keep_24 rfl 0 rfl ?_
      refine g_getR (k2 := 35) C ok1 dX1_keep_25 (hL 33 rfl) rfl 2 (by decide) lk_X1_15 rfl rfl ?_
      refine g_iload_n C dX1_keep_28 rfl 1 rfl ?_
      refine g_iald C dX1_keep_29 (hL 35 rfl) rfl rfl h ?_
      clear h; intro h
      refine g_iald C dX1_keep_30 (hL 34 rfl) rfl rfl h ?_
      clear h; intro h
      refine g_aload_n C dX1_keep_31 rfl 0 rfl ?_
      refine g_getR (k2 := 35) C ok1 dX1_keep_32 (hL 33 rfl) rfl 2 (by decide) lk_X1_15 rfl rfl ?_
      refine g_iload_n C dX1_keep_35 rfl 1 rfl ?_
      refine g_iald C dX1_keep_36 (hL 35 rfl) rfl rfl h ?_
      clear h; intro h
      refine g_iconst (v := (3 : Int32)) C dX1_keep_37 (by decide) ?_
      refine g_imul C dX1_keep_38 ?_
      refine g_ishl C dX1_keep_39 ?_
      refine g_ior C dX1_keep_40 ?_
      refine g_put (ty := .int) C ok1 dX1_keep_41 (hL 33 rfl) rfl 6 (by decide) lk_X1_66 rfl (tyX1_ok 6 (by decide)) rfl rfl rfl h ?_
      clear h; intro s23 h
      refine g_iinc (lv' := fun y => [(1, .int y), (0, .ref (ad 33))]) C dX1_keep_44 1 rfl rfl (by decide) (fun y => rfl) h ?_
      clear h; intro v24 h
      refine g_goto (tgt := 7) C dX1_keep_47 (by decide) ?_
      refine g_sub (lv2 := [(0, .ref (ad 33)), (1, .int v24)]) [1, 0] rfl ?_
      exact ih _ _ h
set_option maxHeartbeats 4000000 in
set_option maxRecDepth 100000 in
theorem ct_X1_keep {N : Nat} (hL : ∀ k, prF k = true → k ∈ L) {st st' : St} (h : F_X1_keep N st = some st') : Ct l D cy ad A L yX1_keep cX1_keep 2 none 1 [.ref (ad 33)] st none st' := by
  unfold F_X1_keep at h
  refine ct_of (own := RX1) (by decide) rfl (Nat.le_of_ble_eq_true rfl) ?_
  intro p e s m args below meth c C hr hlk
  refine g_sub (lv2 := [(0, .ref (ad 33))]) [0] rfl ?_
  refine g_aload_n C dX1_keep_0 rfl 0 rfl ?_
  refine g_iconst (v := (0 : Int32)) C dX1_keep_1 (by decide) ?_
  refine g_put (ty := .int) C ok1 dX1_keep_2 (hL 33 rfl) rfl 6 (by decide) lk_X1_66 rfl (tyX1_ok 6 (by decide)) rfl rfl rfl h ?_
  clear h; intro s21 h
  refine g_iconst (v := (0 : Int32)) C dX1_keep_5 (by decide) ?_
  refine g_istore_n (lv' := fun y => [(1, .int y), (0, .ref (ad 33))]) C dX1_keep_6 rfl (by decide) (fun y => rfl) h ?_
  clear h; intro v22 h
  refine g_sub (lv2 := [(0, .ref (ad 33)), (1, .int v22)]) [1, 0] rfl ?_
  refine wlp_X1_keep_7 (N := N) C hr hlk hL  _ _ _ h
end SM
