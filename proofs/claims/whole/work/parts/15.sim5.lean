section SM
variable {p : Program} {l : Launch} {e : Env} {s : State} {m : MethodId} {args : Array Value} {below : List Frame} {meth : Method} {c : Code} {D : va_G} {cy : Nat → ClassId} {ad : Nat → Nat} {A : Nat → Prop} {L : List Nat}
-- X7_exchange
def F_X7_exchange (v1 : Int32) (v2 : Int32) (st : St) : Option (Int32 × St) :=
  bs (F_X7_isVariable v1) (fun (r21 : Int32) => (if r21 = 0 then some ((-1 : Int32), st) else bs (F_X7_isVariable v2) (fun (r22 : Int32) => (if r22 = 0 then some ((-1 : Int32), st) else ck (inb v1 7) (lt (st 7 v1.toNatClampNeg) (fun (v23 : Int32) => ck (inb v2 7) (ck (inb v1 7) (lt (up st 7 v1.toNatClampNeg (st 7 v2.toNatClampNeg)) (fun (s24 : St) => ck (inb v2 7) (lt (up s24 7 v2.toNatClampNeg v23) (fun (s25 : St) => ck (inb v1 7) (some ((s25 7 v1.toNatClampNeg), s25)))))))))))))
set_option maxHeartbeats 4000000 in
set_option maxRecDepth 100000 in
theorem ct_X7_exchange (hL : ∀ k, prF k = true → k ∈ L) {v1 : Int32} {v2 : Int32} {st st' : St} {r' : Int32} (h : F_X7_exchange v1 v2 st = some (r', st')) : Ct l D cy ad A L yX7_exchange cX7_exchange 4 (some .int) 2 [.ref (ad 0), .int v1, .int v2] st (some (.int r')) st' := by
  unfold F_X7_exchange at h
  refine ct_of (own := RX7) (by decide) rfl (Nat.le_of_ble_eq_true rfl) ?_
  intro p e s m args below meth c C hr hlk
  refine g_sub (lv2 := [(0, .ref (ad 0)), (1, .int v1), (2, .int v2)]) [0, 1, 2] rfl ?_
  refine g_iload_n C dX7_exchange_0 rfl 1 rfl ?_
  replace h := bs_some h
  obtain ⟨r21, h1, h⟩ := h
  refine g_cS (As := [.int v1]) (rest := []) (stk2 := [.int r21]) C mf_X7_isVariable lk_X7_54 sm_X7_isVariable dX7_exchange_1 rfl rfl rfl ⟨Nat.le_of_ble_eq_true rfl, Nat.le_of_ble_eq_true rfl⟩ (Nat.le_of_ble_eq_true rfl) ⟨Nat.le_refl 0, Nat.le_refl 0⟩ (ct_X7_isVariable hL h1) ?_
  refine g_if_eq (tgt := 14) C dX7_exchange_4 (by decide) h ?_ ?_
  · clear h; intro hc4 h
    refine g_iconst (v := (-1 : Int32)) C dX7_exchange_14 (by decide) ?_
    exact g_iret C hr hlk dX7_exchange_15 h
  · clear h; intro hc4 h
    refine g_iload_n C dX7_exchange_7 rfl 2 rfl ?_
    replace h := bs_some h
    obtain ⟨r22, h1, h⟩ := h
    refine g_cS (As := [.int v2]) (rest := []) (stk2 := [.int r22]) C mf_X7_isVariable lk_X7_54 sm_X7_isVariable dX7_exchange_8 rfl rfl rfl ⟨Nat.le_of_ble_eq_true rfl, Nat.le_of_ble_eq_true rfl⟩ (Nat.le_of_ble_eq_true rfl) ⟨Nat.le_refl 0, Nat.le_refl 0⟩ (ct_X7_isVariable hL h1) ?_
    refine g_if_ne (tgt := 16) C dX7_exchange_11 (by decide) h ?_ ?_
    · clear h; intro hc11 h
      refine g_aload_n C dX7_exchange_16 rfl 0 rfl ?_
      refine g_getR (k2 := 1) C ok7 dX7_exchange_17 (hL 0 rfl) rfl 0 (by decide) lk_X7_12 rfl rfl ?_
      refine g_getR (k2 := 7) C ok5 dX7_exchange_20 (hL 1 rfl) rfl 7 (by decide) lk_X7_154 rfl rfl ?_
      refine g_iload_n C dX7_exchange_23 rfl 1 rfl ?_
      refine g_iald C dX7_exchange_24 (hL 7 rfl) rfl rfl h ?_
      clear h; intro h
      refine g_istore_n (lv' := fun y => [(3, .int y), (0, .ref (ad 0)), (1, .int v1), (2, .int v2)]) C dX7_exchange_25 rfl (by decide) (fun y => rfl) h ?_
      clear h; intro v23 h
      refine g_aload_n C dX7_exchange_26 rfl 1 rfl ?_
      refine g_getR (k2 := 1) C ok7 dX7_exchange_27 (hL 0 rfl) rfl 0 (by decide) lk_X7_12 rfl rfl ?_
      refine g_getR (k2 := 7) C ok5 dX7_exchange_30 (hL 1 rfl) rfl 7 (by decide) lk_X7_154 rfl rfl ?_
      refine g_iload_n C dX7_exchange_33 rfl 2 rfl ?_
      refine g_aload_n C dX7_exchange_34 rfl 1 rfl ?_
      refine g_getR (k2 := 1) C ok7 dX7_exchange_35 (hL 0 rfl) rfl 0 (by decide) lk_X7_12 rfl rfl ?_
      refine g_getR (k2 := 7) C ok5 dX7_exchange_38 (hL 1 rfl) rfl 7 (by decide) lk_X7_154 rfl rfl ?_
      refine g_iload_n C dX7_exchange_41 rfl 3 rfl ?_
      refine g_iald C dX7_exchange_42 (hL 7 rfl) rfl rfl h ?_
      clear h; intro h
      refine g_iast C dX7_exchange_43 (hL 7 rfl) rfl rfl h ?_
      clear h; intro s24 h
      refine g_aload_n C dX7_exchange_44 rfl 1 rfl ?_
      refine g_getR (k2 := 1) C ok7 dX7_exchange_45 (hL 0 rfl) rfl 0 (by decide) lk_X7_12 rfl rfl ?_
      refine g_getR (k2 := 7) C ok5 dX7_exchange_48 (hL 1 rfl) rfl 7 (by decide) lk_X7_154 rfl rfl ?_
      refine g_iload_n C dX7_exchange_51 rfl 3 rfl ?_
      refine g_iload_n C dX7_exchange_52 rfl 0 rfl ?_
      refine g_iast C dX7_exchange_53 (hL 7 rfl) rfl rfl h ?_
      clear h; intro s25 h
      refine g_aload_n C dX7_exchange_54 rfl 1 rfl ?_
      refine g_getR (k2 := 1) C ok7 dX7_exchange_55 (hL 0 rfl) rfl 0 (by decide) lk_X7_12 rfl rfl ?_
      refine g_getR (k2 := 7) C ok5 dX7_exchange_58 (hL 1 rfl) rfl 7 (by decide) lk_X7_154 rfl rfl ?_
      refine g_iload_n C dX7_exchange_61 rfl 2 rfl ?_
      refine g_iald C dX7_exchange_62 (hL 7 rfl) rfl rfl h ?_
      clear h; intro h
      exact g_iret C hr hlk dX7_exchange_63 h
    · clear h; intro hc11 h
      refine g_iconst (v := (-1 : Int32)) C dX7_exchange_14 (by decide) ?_
      exact g_iret C hr hlk dX7_exchange_15 h
-- X7_hand
def F_X7_hand (N : Nat) (v1 : Int32) (st : St) : Option (Int32 × St) :=
  bs (F_X7_isMode v1) (fun (r21 : Int32) => (if r21 = 0 then some ((-2 : Int32), st) else lt (fun (x22 : Int32) => bs (F_X6_trace N (127 : Int32) x22 (0 : Int32) st) (fun (s24 : St) => bd (F_X6_cost N 7 s24) (fun (r25 : Int32) (s26 : St) => some (r25, s26)))) (fun (j23 : Int32 → Option (Int32 × St)) => (if v1 = 0 then j23 (0 : Int32) else bs (F_X5_turnable N st) (fun (r27 : Int32) => j23 r27)))))
set_option maxHeartbeats 4000000 in
set_option maxRecDepth 100000 in
theorem ct_X7_hand {N : Nat} (hL : ∀ k, prF k = true → k ∈ L) {v1 : Int32} {st st' : St} {r' : Int32} (h : F_X7_hand N v1 st = some (r', st')) : Ct l D cy ad A L yX7_hand cX7_hand 2 (some .int) 4 [.ref (ad 0), .int v1] st (some (.int r')) st' := by
  unfold F_X7_hand at h
  refine ct_of (own := RX7) (by decide) rfl (Nat.le_of_ble_eq_true rfl) ?_
  intro p e s m args below meth c C hr hlk
  refine g_sub (lv2 := [(0, .ref (ad 0)), (1, .int v1)]) [0, 1] rfl ?_
  refine g_iload_n C dX7_hand_0 rfl 1 rfl ?_
  replace h := bs_some h
  obtain ⟨r21, h1, h⟩ := h
  refine g_cS (As := [.int v1]) (rest := []) (stk2 := [.int r21]) C mf_X7_isMode lk_X7_157 sm_X7_isMode dX7_hand_1 rfl rfl rfl ⟨Nat.le_of_ble_eq_true rfl, Nat.le_of_ble_eq_true rfl⟩ (Nat.le_of_ble_eq_true rfl) ⟨Nat.le_refl 0, Nat.le_refl 0⟩ (ct_X7_isMode hL h1) ?_
  refine g_if_ne (tgt := 10) C dX7_hand_4 (by decide) h ?_ ?_
  · clear h; intro hc4 h
    refine g_aload_n C dX7_hand_10 rfl 0 rfl ?_
    refine g_getR (k2 := 25) C ok7 dX7_hand_11 (hL 0 rfl) rfl 4 (by decide) lk_X7_30 rfl rfl ?_
    refine g_aload_n C dX7_hand_14 rfl 0 rfl ?_
    refine g_getR (k2 := 1) C ok7 dX7_hand_15 (hL 0 rfl) rfl 0 (by decide) lk_X7_12 rfl rfl ?_
    refine g_bipush (v := (127 : Int32)) C dX7_hand_18 (by decide) ?_
    refine g_iload_n C dX7_hand_20 rfl 1 rfl ?_
    replace h := lt_ex h
    obtain ⟨j23, ej23, h⟩ := h
    have hj23 : ∀ (x22 : Int32), j23 x22 = some (r', st') → Gm p l e (rmD 4) s m args below meth c D cy ad A L 2 0 0 (MQ below (QG D cy ad A L (some (.int r')) st') args s 0 0 A) 35 [(0, .ref (ad 0))] [.int x22, .int (127 : Int32), .ref (ad 1), .ref (ad 25)] st := by
      intro x22 h
      rw [ej23] at h
      dsimp only at h
      refine g_iconst (v := (0 : Int32)) C dX7_hand_35 (by decide) ?_
      replace h := bs_some h
      obtain ⟨s24, h1, h⟩ := h
      refine g_cV (As := [.ref (ad 1), .int (127 : Int32), .int x22, .int (0 : Int32)]) (rest := []) (stk2 := []) C mf_X6_trace ok6 rfl lk_X7_163 in_X6_trace se_X6_trace dX7_hand_36 (hL 25 rfl) rfl rfl rfl rfl ⟨Nat.le_of_ble_eq_true rfl, Nat.le_of_ble_eq_true rfl⟩ (Nat.le_of_ble_eq_true rfl) ⟨Nat.le_refl 0, Nat.le_refl 0⟩ (ct_X6_trace hL h1) ?_
      refine g_aload_n C dX7_hand_39 rfl 0 rfl ?_
      refine g_getR (k2 := 25) C ok7 dX7_hand_40 (hL 0 rfl) rfl 4 (by decide) lk_X7_30 rfl rfl ?_
      refine g_aload_n C dX7_hand_43 rfl 0 rfl ?_
      refine g_getR (k2 := 1) C ok7 dX7_hand_44 (hL 0 rfl) rfl 0 (by decide) lk_X7_12 rfl rfl ?_
      refine g_getR (k2 := 7) C ok5 dX7_hand_47 (hL 1 rfl) rfl 7 (by decide) lk_X7_154 rfl rfl ?_
      replace h := bd_some h
      obtain ⟨r25, s26, h1, h⟩ := h
      refine g_cV (As := [.ref (ad 7)]) (rest := []) (stk2 := [.int r25]) C mf_X6_cost ok6 rfl lk_X7_167 in_X6_cost se_X6_cost dX7_hand_50 (hL 25 rfl) rfl rfl rfl rfl ⟨Nat.le_of_ble_eq_true rfl, Nat.le_of_ble_eq_true rfl⟩ (Nat.le_of_ble_eq_true rfl) ⟨Nat.le_refl 0, Nat.le_refl 0⟩ (ct_X6_cost hL h1) ?_
      exact g_iret C hr hlk dX7_hand_53 h
    refine g_if_ne (tgt := 28) C dX7_hand_21 (by decide) h ?_ ?_
    · clear h; intro hc21 h
      refine g_aload_n C dX7_hand_28 rfl 0 rfl ?_
      refine g_getR (k2 := 1) C ok7 dX7_hand_29 (hL 0 rfl) rfl 0 (by decide) lk_X7_12 rfl rfl ?_
      replace h := bs_some h
      obtain ⟨r27, h1, h⟩ := h
      refine g_cV (As := []) (rest := [.int (127 : Int32), .ref (ad 1), .ref (ad 25)]) (stk2 := [.int r27, .int (127 : Int32), .ref (ad 1), .ref (ad 25)]) C mf_X5_turnable ok5 rfl lk_X7_160 in_X5_turnable se_X5_turnable dX7_hand_32 (hL 1 rfl) rfl rfl rfl rfl ⟨Nat.le_of_ble_eq_true rfl, Nat.le_of_ble_eq_true rfl⟩ (Nat.le_of_ble_eq_true rfl) ⟨Nat.le_refl 0, Nat.le_refl 0⟩ (ct_X5_turnable hL h1) ?_
      refine g_sub (lv2 := [(0, .ref (ad 0))]) [0] rfl ?_
      exact hj23 _ h
    · clear h; intro hc21 h
      refine g_iconst (v := (0 : Int32)) C dX7_hand_24 (by decide) ?_
      refine g_goto (tgt := 35) C dX7_hand_25 (by decide) ?_
      refine g_sub (lv2 := [(0, .ref (ad 0))]) [0] rfl ?_
      exact hj23 _ h
  · clear h; intro hc4 h
    refine g_bipush (v := (-2 : Int32)) C dX7_hand_7 (by decide) ?_
    exact g_iret C hr hlk dX7_hand_9 h
-- X7_first
def F_X7_first (st : St) : Option (Int32) :=
  (if (st 1 0) ≤ 0 then some (0 : Int32) else some (1 : Int32))
set_option maxHeartbeats 4000000 in
set_option maxRecDepth 100000 in
theorem ct_X7_first (hL : ∀ k, prF k = true → k ∈ L) {st : St} {r' : Int32} (h : F_X7_first st = some r') : Ct l D cy ad A L yX7_first cX7_first 1 (some .int) 1 [.ref (ad 0)] st (some (.int r')) st := by
  unfold F_X7_first at h
  refine ct_of (own := RX7) (by decide) rfl (Nat.le_of_ble_eq_true rfl) ?_
  intro p e s m args below meth c C hr hlk
  refine g_sub (lv2 := [(0, .ref (ad 0))]) [0] rfl ?_
  refine g_aload_n C dX7_first_0 rfl 0 rfl ?_
  refine g_getR (k2 := 1) C ok7 dX7_first_1 (hL 0 rfl) rfl 0 (by decide) lk_X7_12 rfl rfl ?_
  refine g_getI C ok5 dX7_first_4 (hL 1 rfl) rfl 0 (by decide) lk_X7_58 rfl ?_
  refine g_if_le (tgt := 14) C dX7_first_7 (by decide) h ?_ ?_
  · clear h; intro hc7 h
    refine g_iconst (v := (0 : Int32)) C dX7_first_14 (by decide) ?_
    exact g_iretP C hr hlk dX7_first_15 h
  · clear h; intro hc7 h
    refine g_iconst (v := (1 : Int32)) C dX7_first_10 (by decide) ?_
    refine g_goto (tgt := 15) C dX7_first_11 (by decide) ?_
    exact g_iretP C hr hlk dX7_first_15 h
-- X0_leftByGreatest
def lpB_X0_leftByGreatest_9 (N : Nat) (v2 : Int32) (self : Int32 → Int32 → St → Option (Int32 × St)) (v3 : Int32) (v4 : Int32) (st : St) : Option (Int32 × St) :=
  (if v2 ≤ v4 then some (v3, st) else bs (F_X0_greatest N st) (fun (r25 : Int32) => lt r25 (fun (v26 : Int32) => (if v26 < 0 then lt (v4 + (1 : Int32)) (fun (v27 : Int32) => self v3 v27 st) else ck (inb v26 49) (lt (v3 - (st 67 v26.toNatClampNeg)) (fun (v28 : Int32) => ck (inb v26 49) (lt (up st 67 v26.toNatClampNeg (0 : Int32)) (fun (s29 : St) => lt (v4 + (1 : Int32)) (fun (v30 : Int32) => self v28 v30 s29)))))))))
def lp_X0_leftByGreatest_9 (N : Nat) (v2 : Int32) : Nat → Int32 → Int32 → St → Option (Int32 × St) := itf (lpB_X0_leftByGreatest_9 N v2) (fun _ _ _ => none)
def F_X0_leftByGreatest (N : Nat) (v2 : Int32) (st : St) : Option (Int32 × St) :=
  bd (F_X0_load N st) (fun (r21 : Int32) (s22 : St) => lt r21 (fun (v23 : Int32) => lt (0 : Int32) (fun (v24 : Int32) => lp_X0_leftByGreatest_9 N v2  N v23 v24 s22)))
set_option maxHeartbeats 4000000 in
set_option maxRecDepth 100000 in
theorem wlp_X0_leftByGreatest_9 (C : Cx p s m args c cX0_leftByGreatest RX0 6 D cy ad A L) (hr : meth.sig.returnType = (some .int)) (hlk : meth.locks = false) (hL : ∀ k, prF k = true → k ∈ L) {N : Nat} {v2 : Int32} {r' : Int32} {st' : St} : ∀ (n : Nat) (v3 : Int32) (v4 : Int32) (st : St), lp_X0_leftByGreatest_9 N v2 n v3 v4 st = some (r', st') → Gm p l e (rmD 3) s m args below meth c D cy ad A L 6 0 0 (MQ below (QG D cy ad A L (some (.int r')) st') args s 0 0 A) 9 [(0, .ref (ad 65)), (2, .int v2), (3, .int v3), (4, .int v4)] [] st := by
  intro n
  induction n with
  | zero => intro v3 v4 st h; cases h
  | succ n ih =>
    intro v3 v4 st h
    change lpB_X0_leftByGreatest_9 N v2 (lp_X0_leftByGreatest_9 N v2 n) v3 v4 st = some _ at h
    unfold lpB_X0_leftByGreatest_9 at h
    refine g_iload C dX0_leftByGreatest_9 3 rfl ?_
    refine g_iload_n C dX0_leftByGreatest_11 rfl 1 rfl ?_
    refine g_icmp_ge (tgt := 50) C dX0_leftByGreatest_12 (by decide) h ?_ ?_
    · clear h; intro hc12 h
      refine g_iload_n C dX0_leftByGreatest_50 rfl 2 rfl ?_
      exact g_iret C hr hlk dX0_leftByGreatest_51 h
    · clear h; intro hc12 h
      refine g_aload_n C dX0_leftByGreatest_15 rfl 0 rfl ?_
      replace h := bs_some h
      obtain ⟨r25, h1, h⟩ := h
      refine g_cV (As := []) (rest := []) (stk2 := [.int r25]) C mf_X0_greatest ok0 rfl lk_X0_42 in_X0_greatest se_X0_greatest dX0_leftByGreatest_16 (hL 65 rfl) rfl rfl rfl rfl ⟨Nat.le_of_ble_eq_true rfl, Nat.le_of_ble_eq_true rfl⟩ (Nat.le_of_ble_eq_true rfl) ⟨Nat.le_refl 0, Nat.le_refl 0⟩ (ct_X0_greatest hL h1) ?_
      refine g_istore (lv' := fun y => [(5, .int y), (0, .ref (ad 65)), (2, .int v2), (3, .int v3), (4, .int v4)]) C dX0_leftByGreatest_19 (by decide) (fun y => rfl) h ?_
      clear h; intro v26 h
      refine g_iload C dX0_leftByGreatest_21 0 rfl ?_
      refine g_if_lt (tgt := 44) C dX0_leftByGreatest_23 (by decide) h ?_ ?_
      · clear h; intro hc23 h
        refine g_iinc (lv' := fun y => [(4, .int y), (5, .int v26), (0, .ref (ad 65)), (2, .int v2), (3, .int v3)]) C dX0_leftByGreatest_44 4 rfl rfl (by decide) (fun y => rfl) h ?_
        clear h; intro v27 h
        refine g_goto (tgt := 9) C dX0_leftByGreatest_47 (by decide) ?_
        refine g_sub (lv2 := [(0, .ref (ad 65)), (2, .int v2), (3, .int v3), (4, .int v27)]) [2, 3, 4, 0] rfl ?_
        exact ih _ _ _ h
      · clear h; intro hc23 h
        refine g_iload_n C dX0_leftByGreatest_26 rfl 3 rfl ?_
        refine g_aload_n C dX0_leftByGreatest_27 rfl 1 rfl ?_
        refine g_getR (k2 := 67) C ok0 dX0_leftByGreatest_28 (hL 65 rfl) rfl 1 (by decide) lk_X0_15 rfl rfl ?_
        refine g_iload C dX0_leftByGreatest_31 0 rfl ?_
        refine g_iald C dX0_leftByGreatest_33 (hL 67 rfl) rfl rfl h ?_
        clear h; intro h
        refine g_isub C dX0_leftByGreatest_34 ?_
        refine g_istore_n (lv' := fun y => [(3, .int y), (5, .int v26), (0, .ref (ad 65)), (2, .int v2), (4, .int v4)]) C dX0_leftByGreatest_35 rfl (by decide) (fun y => rfl) h ?_
        clear h; intro v28 h
        refine g_aload_n C dX0_leftByGreatest_36 rfl 2 rfl ?_
        refine g_getR (k2 := 67) C ok0 dX0_leftByGreatest_37 (hL 65 rfl) rfl 1 (by decide) lk_X0_15 rfl rfl ?_
        refine g_iload C dX0_leftByGreatest_40 1 rfl ?_
        refine g_iconst (v := (0 : Int32)) C dX0_leftByGreatest_42 (by decide) ?_
        refine g_iast C dX0_leftByGreatest_43 (hL 67 rfl) rfl rfl h ?_
        clear h; intro s29 h
        refine g_iinc (lv' := fun y => [(4, .int y), (3, .int v28), (5, .int v26), (0, .ref (ad 65)), (2, .int v2)]) C dX0_leftByGreatest_44 4 rfl rfl (by decide) (fun y => rfl) h ?_
        clear h; intro v30 h
        refine g_goto (tgt := 9) C dX0_leftByGreatest_47 (by decide) ?_
        refine g_sub (lv2 := [(0, .ref (ad 65)), (2, .int v2), (3, .int v28), (4, .int v30)]) [3, 4, 1, 0] rfl ?_
        exact ih _ _ _ h
set_option maxHeartbeats 4000000 in
set_option maxRecDepth 100000 in
theorem ct_X0_leftByGreatest {N : Nat} (hL : ∀ k, prF k = true → k ∈ L) {v2 : Int32} {st st' : St} {r' : Int32} (h : F_X0_leftByGreatest N v2 st = some (r', st')) : Ct l D cy ad A L yX0_leftByGreatest cX0_leftByGreatest 6 (some .int) 3 [.ref (ad 65), .ref (ad 26), .int v2] st (some (.int r')) st' := by
  unfold F_X0_leftByGreatest at h
  refine ct_of (own := RX0) (by decide) rfl (Nat.le_of_ble_eq_true rfl) ?_
  intro p e s m args below meth c C hr hlk
  refine g_sub (lv2 := [(0, .ref (ad 65)), (1, .ref (ad 26)), (2, .int v2)]) [0, 1, 2] rfl ?_
  refine g_aload_n C dX0_leftByGreatest_0 rfl 0 rfl ?_
  refine g_aload_n C dX0_leftByGreatest_1 rfl 1 rfl ?_
  replace h := bd_some h
  obtain ⟨r21, s22, h1, h⟩ := h
  refine g_cV (As := [.ref (ad 26)]) (rest := []) (stk2 := [.int r21]) C mf_X0_load ok0 rfl lk_X0_35 in_X0_load se_X0_load dX0_leftByGreatest_2 (hL 65 rfl) rfl rfl rfl rfl ⟨Nat.le_of_ble_eq_true rfl, Nat.le_of_ble_eq_true rfl⟩ (Nat.le_of_ble_eq_true rfl) ⟨Nat.le_refl 0, Nat.le_refl 0⟩ (ct_X0_load hL h1) ?_
  refine g_istore_n (lv' := fun y => [(3, .int y), (0, .ref (ad 65)), (1, .ref (ad 26)), (2, .int v2)]) C dX0_leftByGreatest_5 rfl (by decide) (fun y => rfl) h ?_
  clear h; intro v23 h
  refine g_iconst (v := (0 : Int32)) C dX0_leftByGreatest_6 (by decide) ?_
  refine g_istore (lv' := fun y => [(4, .int y), (3, .int v23), (0, .ref (ad 65)), (1, .ref (ad 26)), (2, .int v2)]) C dX0_leftByGreatest_7 (by decide) (fun y => rfl) h ?_
  clear h; intro v24 h
  refine g_sub (lv2 := [(0, .ref (ad 65)), (2, .int v2), (3, .int v23), (4, .int v24)]) [2, 4, 1, 0] rfl ?_
  refine wlp_X0_leftByGreatest_9 (N := N) C hr hlk hL  _ _ _ _ h
-- X7_count
def F_X7_count (N : Nat) (v1 : Int32) (st : St) : Option (Int32 × St) :=
  lt (if v1 = (0 : Int32) then some ((st 1 0), st) else (if v1 = (1 : Int32) then bs (F_X4_look N (0 : Int32) st) (fun (s22 : St) => some ((s22 23 1), s22)) else (if v1 = (2 : Int32) then bs (F_X5_usedSet N st) (fun (r23 : Int32) => some (r23, st)) else (if v1 = (3 : Int32) then bs (F_X7_weights N st) (fun (s24 : St) => bs (F_X0_take N s24) (fun (s25 : St) => bs (F_X7_first s25) (fun (r26 : Int32) => some ((r26 + (s25 65 5)), s25)))) else (if v1 = (4 : Int32) then bs (F_X7_weights N st) (fun (s27 : St) => bs (F_X0_take N s27) (fun (s28 : St) => some ((s28 65 4), s28))) else (if v1 = (5 : Int32) then bs (F_X7_first st) (fun (r29 : Int32) => bs (F_X7_weights N st) (fun (s30 : St) => bs (F_X5_usedSet N s30) (fun (r31 : Int32) => bs (F_J6_bitCount_0f7a4 r31) (fun (r32 : Int32) => bd (F_X0_leftByGreatest N (r32 - (1 : Int32)) s30) (fun (r33 : Int32) (s34 : St) => some ((r29 + r33), s34)))))) else (if v1 = (6 : Int32) then some ((st 0 2), st) else (some ((-2 : Int32), st))))))))) (fun (j21 : Option (Int32 × St)) => (if v1 < (10 : Int32) then j21 else (if (17 : Int32) ≤ v1 then j21 else ck (inb (v1 - (10 : Int32)) 7) (some ((st 7 (v1 - (10 : Int32)).toNatClampNeg), st)))))
set_option maxHeartbeats 4000000 in
set_option maxRecDepth 100000 in
theorem ct_X7_count {N : Nat} (hL : ∀ k, prF k = true → k ∈ L) {v1 : Int32} {st st' : St} {r' : Int32} (h : F_X7_count N v1 st = some (r', st')) : Ct l D cy ad A L yX7_count cX7_count 2 (some .int) 5 [.ref (ad 0), .int v1] st (some (.int r')) st' := by
  unfold F_X7_count at h
  refine ct_of (own := RX7) (by decide) rfl (Nat.le_of_ble_eq_true rfl) ?_
  intro p e s m args below meth c C hr hlk
  refine g_sub (lv2 := [(0, .ref (ad 0)), (1, .int v1)]) [0, 1] rfl ?_
  refine g_iload_n C dX7_count_0 rfl 1 rfl ?_
  refine g_bipush (v := (10 : Int32)) C dX7_count_1 (by decide) ?_
  replace h := lt_ex h
  obtain ⟨j21, ej21, h⟩ := h
  have hj21 : j21 = some (r', st') → Gm p l e (rmD 5) s m args below meth c D cy ad A L 2 0 0 (MQ below (QG D cy ad A L (some (.int r')) st') args s 0 0 A) 25 [(0, .ref (ad 0)), (1, .int v1)] [] st := by
    intro h
    rw [ej21] at h
    skip
    refine g_iload_n C dX7_count_25 rfl 1 rfl ?_
    by_cases hs0 : v1 = (0 : Int32)
    · rw [if_pos hs0] at h
      refine g_swIn (k := (0 : Int32)) (tgt := 68) C dX7_count_26 hs0 (by decide) (by decide) rfl (by decide) ?_
      refine g_aload_n C dX7_count_68 rfl 0 rfl ?_
      refine g_getR (k2 := 1) C ok7 dX7_count_69 (hL 0 rfl) rfl 0 (by decide) lk_X7_12 rfl rfl ?_
      refine g_getI C ok5 dX7_count_72 (hL 1 rfl) rfl 0 (by decide) lk_X7_58 rfl ?_
      exact g_iret C hr hlk dX7_count_75 h
    · rw [if_neg hs0] at h
      by_cases hs1 : v1 = (1 : Int32)
      · rw [if_pos hs1] at h
        refine g_swIn (k := (1 : Int32)) (tgt := 76) C dX7_count_26 hs1 (by decide) (by decide) rfl (by decide) ?_
        refine g_aload_n C dX7_count_76 rfl 0 rfl ?_
        refine g_getR (k2 := 23) C ok7 dX7_count_77 (hL 0 rfl) rfl 3 (by decide) lk_X7_23 rfl rfl ?_
        refine g_aload_n C dX7_count_80 rfl 0 rfl ?_
        refine g_getR (k2 := 1) C ok7 dX7_count_81 (hL 0 rfl) rfl 0 (by decide) lk_X7_12 rfl rfl ?_
        refine g_iconst (v := (0 : Int32)) C dX7_count_84 (by decide) ?_
        replace h := bs_some h
        obtain ⟨s22, h1, h⟩ := h
        refine g_cV (As := [.ref (ad 1), .int (0 : Int32)]) (rest := []) (stk2 := []) C mf_X4_look ok4 rfl lk_X7_97 in_X4_look se_X4_look dX7_count_85 (hL 23 rfl) rfl rfl rfl rfl ⟨Nat.le_of_ble_eq_true rfl, Nat.le_of_ble_eq_true rfl⟩ (Nat.le_of_ble_eq_true rfl) ⟨Nat.le_refl 0, Nat.le_refl 0⟩ (ct_X4_look hL h1) ?_
        refine g_aload_n C dX7_count_88 rfl 0 rfl ?_
        refine g_getR (k2 := 23) C ok7 dX7_count_89 (hL 0 rfl) rfl 3 (by decide) lk_X7_23 rfl rfl ?_
        refine g_getI C ok4 dX7_count_92 (hL 23 rfl) rfl 1 (by decide) lk_X7_170 rfl ?_
        exact g_iret C hr hlk dX7_count_95 h
      · rw [if_neg hs1] at h
        by_cases hs2 : v1 = (2 : Int32)
        · rw [if_pos hs2] at h
          refine g_swIn (k := (2 : Int32)) (tgt := 96) C dX7_count_26 hs2 (by decide) (by decide) rfl (by decide) ?_
          refine g_aload_n C dX7_count_96 rfl 0 rfl ?_
          refine g_getR (k2 := 1) C ok7 dX7_count_97 (hL 0 rfl) rfl 0 (by decide) lk_X7_12 rfl rfl ?_
          replace h := bs_some h
          obtain ⟨r23, h1, h⟩ := h
          refine g_cV (As := []) (rest := []) (stk2 := [.int r23]) C mf_X5_usedSet ok5 rfl lk_X7_124 in_X5_usedSet se_X5_usedSet dX7_count_100 (hL 1 rfl) rfl rfl rfl rfl ⟨Nat.le_of_ble_eq_true rfl, Nat.le_of_ble_eq_true rfl⟩ (Nat.le_of_ble_eq_true rfl) ⟨Nat.le_refl 0, Nat.le_refl 0⟩ (ct_X5_usedSet hL h1) ?_
          exact g_iret C hr hlk dX7_count_103 h
        · rw [if_neg hs2] at h
          by_cases hs3 : v1 = (3 : Int32)
          · rw [if_pos hs3] at h
            refine g_swIn (k := (3 : Int32)) (tgt := 104) C dX7_count_26 hs3 (by decide) (by decide) rfl (by decide) ?_
            refine g_aload_n C dX7_count_104 rfl 0 rfl ?_
            refine g_getR (k2 := 65) C ok7 dX7_count_105 (hL 0 rfl) rfl 6 (by decide) lk_X7_50 rfl rfl ?_
            refine g_aload_n C dX7_count_108 rfl 0 rfl ?_
            replace h := bs_some h
            obtain ⟨s24, h1, h⟩ := h
            refine g_cV (As := []) (rest := [.ref (ad 65)]) (stk2 := [.ref (ad 26), .ref (ad 65)]) C mf_X7_weights ok7 rfl lk_X7_144 in_X7_weights se_X7_weights dX7_count_109 (hL 0 rfl) rfl rfl rfl rfl ⟨Nat.le_of_ble_eq_true rfl, Nat.le_of_ble_eq_true rfl⟩ (Nat.le_of_ble_eq_true rfl) ⟨Nat.le_refl 0, Nat.le_refl 0⟩ (ct_X7_weights hL h1) ?_
            replace h := bs_some h
            obtain ⟨s25, h1, h⟩ := h
            refine g_cV (As := [.ref (ad 26)]) (rest := []) (stk2 := []) C mf_X0_take ok0 rfl lk_X7_148 in_X0_take se_X0_take dX7_count_112 (hL 65 rfl) rfl rfl rfl rfl ⟨Nat.le_of_ble_eq_true rfl, Nat.le_of_ble_eq_true rfl⟩ (Nat.le_of_ble_eq_true rfl) ⟨Nat.le_refl 0, Nat.le_refl 0⟩ (ct_X0_take hL h1) ?_
            refine g_aload_n C dX7_count_115 rfl 0 rfl ?_
            replace h := bs_some h
            obtain ⟨r26, h1, h⟩ := h
            refine g_cV (As := []) (rest := []) (stk2 := [.int r26]) C mf_X7_first ok7 rfl lk_X7_173 in_X7_first se_X7_first dX7_count_116 (hL 0 rfl) rfl rfl rfl rfl ⟨Nat.le_of_ble_eq_true rfl, Nat.le_of_ble_eq_true rfl⟩ (Nat.le_of_ble_eq_true rfl) ⟨Nat.le_refl 0, Nat.le_refl 0⟩ (ct_X7_first hL h1) ?_
            refine g_aload_n C dX7_count_119 rfl 0 rfl ?_
            refine g_getR (k2 := 65) C ok7 dX7_count_120 (hL 0 rfl) rfl 6 (by decide) lk_X7_50 rfl rfl ?_
            refine g_getI C ok0 dX7_count_123 (hL 65 rfl) rfl 5 (by decide) lk_X7_176 rfl ?_
            refine g_iadd C dX7_count_126 ?_
            exact g_iret C hr hlk dX7_count_127 h
          · rw [if_neg hs3] at h
            by_cases hs4 : v1 = (4 : Int32)
            · rw [if_pos hs4] at h
              refine g_swIn (k := (4 : Int32)) (tgt := 128) C dX7_count_26 hs4 (by decide) (by decide) rfl (by decide) ?_
              refine g_aload_n C dX7_count_128 rfl 0 rfl ?_
              refine g_getR (k2 := 65) C ok7 dX7_count_129 (hL 0 rfl) rfl 6 (by decide) lk_X7_50 rfl rfl ?_
              refine g_aload_n C dX7_count_132 rfl 0 rfl ?_
              replace h := bs_some h
              obtain ⟨s27, h1, h⟩ := h
              refine g_cV (As := []) (rest := [.ref (ad 65)]) (stk2 := [.ref (ad 26), .ref (ad 65)]) C mf_X7_weights ok7 rfl lk_X7_144 in_X7_weights se_X7_weights dX7_count_133 (hL 0 rfl) rfl rfl rfl rfl ⟨Nat.le_of_ble_eq_true rfl, Nat.le_of_ble_eq_true rfl⟩ (Nat.le_of_ble_eq_true rfl) ⟨Nat.le_refl 0, Nat.le_refl 0⟩ (ct_X7_weights hL h1) ?_
              replace h := bs_some h
              obtain ⟨s28, h1, h⟩ := h
              refine g_cV (As := [.ref (ad 26)]) (rest := []) (stk2 := []) C mf_X0_take ok0 rfl lk_X7_148 in_X0_take se_X0_take dX7_count_136 (hL 65 rfl) rfl rfl rfl rfl ⟨Nat.le_of_ble_eq_true rfl, Nat.le_of_ble_eq_true rfl⟩ (Nat.le_of_ble_eq_true rfl) ⟨Nat.le_refl 0, Nat.le_refl 0⟩ (ct_X0_take hL h1) ?_
              refine g_aload_n C dX7_count_139 rfl 0 rfl ?_
              refine g_getR (k2 := 65) C ok7 dX7_count_140 (hL 0 rfl) rfl 6 (by decide) lk_X7_50 rfl rfl ?_
              refine g_getI C ok0 dX7_count_143 (hL 65 rfl) rfl 4 (by decide) lk_X7_179 rfl ?_
              exact g_iret C hr hlk dX7_count_146 h
            · rw [if_neg hs4] at h
              by_cases hs5 : v1 = (5 : Int32)
              · rw [if_pos hs5] at h
                refine g_swIn (k := (5 : Int32)) (tgt := 147) C dX7_count_26 hs5 (by decide) (by decide) rfl (by decide) ?_
                refine g_aload_n C dX7_count_147 rfl 0 rfl ?_
                replace h := bs_some h
                obtain ⟨r29, h1, h⟩ := h
                refine g_cV (As := []) (rest := []) (stk2 := [.int r29]) C mf_X7_first ok7 rfl lk_X7_173 in_X7_first se_X7_first dX7_count_148 (hL 0 rfl) rfl rfl rfl rfl ⟨Nat.le_of_ble_eq_true rfl, Nat.le_of_ble_eq_true rfl⟩ (Nat.le_of_ble_eq_true rfl) ⟨Nat.le_refl 0, Nat.le_refl 0⟩ (ct_X7_first hL h1) ?_
                refine g_aload_n C dX7_count_151 rfl 0 rfl ?_
                refine g_getR (k2 := 65) C ok7 dX7_count_152 (hL 0 rfl) rfl 6 (by decide) lk_X7_50 rfl rfl ?_
                refine g_aload_n C dX7_count_155 rfl 0 rfl ?_
                replace h := bs_some h
                obtain ⟨s30, h1, h⟩ := h
                refine g_cV (As := []) (rest := [.ref (ad 65), .int r29]) (stk2 := [.ref (ad 26), .ref (ad 65), .int r29]) C mf_X7_weights ok7 rfl lk_X7_144 in_X7_weights se_X7_weights dX7_count_156 (hL 0 rfl) rfl rfl rfl rfl ⟨Nat.le_of_ble_eq_true rfl, Nat.le_of_ble_eq_true rfl⟩ (Nat.le_of_ble_eq_true rfl) ⟨Nat.le_refl 0, Nat.le_refl 0⟩ (ct_X7_weights hL h1) ?_
                refine g_aload_n C dX7_count_159 rfl 0 rfl ?_
                refine g_getR (k2 := 1) C ok7 dX7_count_160 (hL 0 rfl) rfl 0 (by decide) lk_X7_12 rfl rfl ?_
                replace h := bs_some h
                obtain ⟨r31, h1, h⟩ := h
                refine g_cV (As := []) (rest := [.ref (ad 26), .ref (ad 65), .int r29]) (stk2 := [.int r31, .ref (ad 26), .ref (ad 65), .int r29]) C mf_X5_usedSet ok5 rfl lk_X7_124 in_X5_usedSet se_X5_usedSet dX7_count_163 (hL 1 rfl) rfl rfl rfl rfl ⟨Nat.le_of_ble_eq_true rfl, Nat.le_of_ble_eq_true rfl⟩ (Nat.le_of_ble_eq_true rfl) ⟨Nat.le_refl 0, Nat.le_refl 0⟩ (ct_X5_usedSet hL h1) ?_
                replace h := bs_some h
                obtain ⟨r32, h1, h⟩ := h
                refine g_cS (As := [.int r31]) (rest := [.ref (ad 26), .ref (ad 65), .int r29]) (stk2 := [.int r32, .ref (ad 26), .ref (ad 65), .int r29]) C mf_J6_bitCount_0f7a4 lk_X7_182 sm_J6_bitCount_0f7a4 dX7_count_166 rfl rfl rfl ⟨Nat.le_of_ble_eq_true rfl, Nat.le_of_ble_eq_true rfl⟩ (Nat.le_of_ble_eq_true rfl) ⟨Nat.le_refl 0, Nat.le_refl 0⟩ (ct_J6_bitCount_0f7a4 hL h1) ?_
                refine g_iconst (v := (1 : Int32)) C dX7_count_169 (by decide) ?_
                refine g_isub C dX7_count_170 ?_
                replace h := bd_some h
                obtain ⟨r33, s34, h1, h⟩ := h
                refine g_cV (As := [.ref (ad 26), .int (r32 - (1 : Int32))]) (rest := [.int r29]) (stk2 := [.int r33, .int r29]) C mf_X0_leftByGreatest ok0 rfl lk_X7_188 in_X0_leftByGreatest se_X0_leftByGreatest dX7_count_171 (hL 65 rfl) rfl rfl rfl rfl ⟨Nat.le_of_ble_eq_true rfl, Nat.le_of_ble_eq_true rfl⟩ (Nat.le_of_ble_eq_true rfl) ⟨Nat.le_refl 0, Nat.le_refl 0⟩ (ct_X0_leftByGreatest hL h1) ?_
                refine g_iadd C dX7_count_174 ?_
                exact g_iret C hr hlk dX7_count_175 h
              · rw [if_neg hs5] at h
                by_cases hs6 : v1 = (6 : Int32)
                · rw [if_pos hs6] at h
                  refine g_swIn (k := (6 : Int32)) (tgt := 176) C dX7_count_26 hs6 (by decide) (by decide) rfl (by decide) ?_
                  refine g_aload_n C dX7_count_176 rfl 0 rfl ?_
                  refine g_getI C ok7 dX7_count_177 (hL 0 rfl) rfl 2 (by decide) lk_X7_192 rfl ?_
                  exact g_iret C hr hlk dX7_count_180 h
                · rw [if_neg hs6] at h
                  have hn0 : ¬ v1.toInt = 0 := fun q => hs0 (Int32.toInt_inj.mp (by rw [q]; decide))
                  have hn1 : ¬ v1.toInt = 1 := fun q => hs1 (Int32.toInt_inj.mp (by rw [q]; decide))
                  have hn2 : ¬ v1.toInt = 2 := fun q => hs2 (Int32.toInt_inj.mp (by rw [q]; decide))
                  have hn3 : ¬ v1.toInt = 3 := fun q => hs3 (Int32.toInt_inj.mp (by rw [q]; decide))
                  have hn4 : ¬ v1.toInt = 4 := fun q => hs4 (Int32.toInt_inj.mp (by rw [q]; decide))
                  have hn5 : ¬ v1.toInt = 5 := fun q => hs5 (Int32.toInt_inj.mp (by rw [q]; decide))
                  have hn6 : ¬ v1.toInt = 6 := fun q => hs6 (Int32.toInt_inj.mp (by rw [q]; decide))
                  refine g_swOut (tgt := 181) C dX7_count_26 (by omega) (by decide) ?_
                  refine g_bipush (v := (-2 : Int32)) C dX7_count_181 (by decide) ?_
                  exact g_iret C hr hlk dX7_count_183 h
  refine g_icmp_lt (tgt := 25) C dX7_count_3 (by decide) h ?_ ?_
  · clear h; intro hc3 h
    refine g_sub (lv2 := [(0, .ref (ad 0)), (1, .int v1)]) [0, 1] rfl ?_
    exact hj21  h
  · clear h; intro hc3 h
    refine g_iload_n C dX7_count_6 rfl 1 rfl ?_
    refine g_bipush (v := (17 : Int32)) C dX7_count_7 (by decide) ?_
    refine g_icmp_ge (tgt := 25) C dX7_count_9 (by decide) h ?_ ?_
    · clear h; intro hc9 h
      refine g_sub (lv2 := [(0, .ref (ad 0)), (1, .int v1)]) [0, 1] rfl ?_
      exact hj21  h
    · clear h; intro hc9 h
      refine g_aload_n C dX7_count_12 rfl 0 rfl ?_
      refine g_getR (k2 := 1) C ok7 dX7_count_13 (hL 0 rfl) rfl 0 (by decide) lk_X7_12 rfl rfl ?_
      refine g_getR (k2 := 7) C ok5 dX7_count_16 (hL 1 rfl) rfl 7 (by decide) lk_X7_154 rfl rfl ?_
      refine g_iload_n C dX7_count_19 rfl 1 rfl ?_
      refine g_bipush (v := (10 : Int32)) C dX7_count_20 (by decide) ?_
      refine g_isub C dX7_count_22 ?_
      refine g_iald C dX7_count_23 (hL 7 rfl) rfl rfl h ?_
      clear h; intro h
      exact g_iret C hr hlk dX7_count_24 h
-- X5_copyFrom
def F_X5_copyFrom (o : Nat) (o2 : Nat) (st : St) : Option (St) :=
  ck (decide (kd o = 5)) (ck (decide (kd o2 = 5)) (lt (up st o 0 (st o2 0)) (fun (s21 : St) => ck (decide (0 ≤ (0 : Int32) ∧ 0 ≤ (0 : Int32) ∧ 0 ≤ (10 : Int32) ∧ (0 : Int32).toNatClampNeg + (10 : Int32).toNatClampNeg ≤ 10 ∧ (0 : Int32).toNatClampNeg + (10 : Int32).toNatClampNeg ≤ 10)) (lt (upr s21 (o + 1) (va_cpy (s21 (o2 + 1)) (s21 (o + 1)) (0 : Int32).toNatClampNeg (0 : Int32).toNatClampNeg (10 : Int32).toNatClampNeg)) (fun (s22 : St) => ck (decide (0 ≤ (0 : Int32) ∧ 0 ≤ (0 : Int32) ∧ 0 ≤ (10 : Int32) ∧ (0 : Int32).toNatClampNeg + (10 : Int32).toNatClampNeg ≤ 10 ∧ (0 : Int32).toNatClampNeg + (10 : Int32).toNatClampNeg ≤ 10)) (lt (upr s22 (o + 2) (va_cpy (s22 (o2 + 2)) (s22 (o + 2)) (0 : Int32).toNatClampNeg (0 : Int32).toNatClampNeg (10 : Int32).toNatClampNeg)) (fun (s23 : St) => ck (decide (0 ≤ (0 : Int32) ∧ 0 ≤ (0 : Int32) ∧ 0 ≤ (10 : Int32) ∧ (0 : Int32).toNatClampNeg + (10 : Int32).toNatClampNeg ≤ 10 ∧ (0 : Int32).toNatClampNeg + (10 : Int32).toNatClampNeg ≤ 10)) (lt (upr s23 (o + 3) (va_cpy (s23 (o2 + 3)) (s23 (o + 3)) (0 : Int32).toNatClampNeg (0 : Int32).toNatClampNeg (10 : Int32).toNatClampNeg)) (fun (s24 : St) => ck (decide (0 ≤ (0 : Int32) ∧ 0 ≤ (0 : Int32) ∧ 0 ≤ (10 : Int32) ∧ (0 : Int32).toNatClampNeg + (10 : Int32).toNatClampNeg ≤ 10 ∧ (0 : Int32).toNatClampNeg + (10 : Int32).toNatClampNeg ≤ 10)) (lt (upr s24 (o + 4) (va_cpy (s24 (o2 + 4)) (s24 (o + 4)) (0 : Int32).toNatClampNeg (0 : Int32).toNatClampNeg (10 : Int32).toNatClampNeg)) (fun (s25 : St) => lt (up s25 o 5 (s25 o2 5)) (fun (s26 : St) => ck (decide (0 ≤ (0 : Int32) ∧ 0 ≤ (0 : Int32) ∧ 0 ≤ (7 : Int32) ∧ (0 : Int32).toNatClampNeg + (7 : Int32).toNatClampNeg ≤ 7 ∧ (0 : Int32).toNatClampNeg + (7 : Int32).toNatClampNeg ≤ 7)) (lt (upr s26 (o + 5) (va_cpy (s26 (o2 + 5)) (s26 (o + 5)) (0 : Int32).toNatClampNeg (0 : Int32).toNatClampNeg (7 : Int32).toNatClampNeg)) (fun (s27 : St) => ck (decide (0 ≤ (0 : Int32) ∧ 0 ≤ (0 : Int32) ∧ 0 ≤ (7 : Int32) ∧ (0 : Int32).toNatClampNeg + (7 : Int32).toNatClampNeg ≤ 7 ∧ (0 : Int32).toNatClampNeg + (7 : Int32).toNatClampNeg ≤ 7)) (lt (upr s27 (o + 6) (va_cpy (s27 (o2 + 6)) (s27 (o + 6)) (0 : Int32).toNatClampNeg (0 : Int32).toNatClampNeg (7 : Int32).toNatClampNeg)) (fun (s28 : St) => some s28))))))))))))))))
set_option maxHeartbeats 4000000 in
set_option maxRecDepth 100000 in
theorem ct_X5_copyFrom (hL : ∀ k, prF k = true → k ∈ L) {o : Nat} {o2 : Nat} {st st' : St} (h : F_X5_copyFrom o o2 st = some st') : Ct l D cy ad A L yX5_copyFrom cX5_copyFrom 2 none 2 [.ref (ad o), .ref (ad o2)] st none st' := by
  unfold F_X5_copyFrom at h
  refine ct_of (own := RX5) (by decide) rfl (Nat.le_of_ble_eq_true rfl) ?_
  intro p e s m args below meth c C hr hlk
  refine g_sub (lv2 := [(0, .ref (ad o)), (1, .ref (ad o2))]) [0, 1] rfl ?_
  replace h := ck_some h
  obtain ⟨hg_o, h⟩ := h
  have kd_o : kd o = 5 := of_decide_eq_true hg_o
  replace h := ck_some h
  obtain ⟨hg_o2, h⟩ := h
  have kd_o2 : kd o2 = 5 := of_decide_eq_true hg_o2
  refine g_aload_n C dX5_copyFrom_0 rfl 0 rfl ?_
  refine g_aload_n C dX5_copyFrom_1 rfl 1 rfl ?_
  refine g_getI C ok5 dX5_copyFrom_2 (hL _ (prF_of kd_o2 (by decide))) kd_o2 0 (by decide) lk_X5_34 rfl ?_
  refine g_put (ty := .int) C ok5 dX5_copyFrom_5 (hL _ (prF_of kd_o (by decide))) kd_o 0 (by decide) lk_X5_34 rfl (tyX5_ok 0 (by decide)) rfl rfl rfl h ?_
  clear h; intro s21 h
  refine g_aload_n C dX5_copyFrom_8 rfl 1 rfl ?_
  refine g_getR (k2 := (o2 + 1)) C ok5 dX5_copyFrom_9 (hL _ (prF_of kd_o2 (by decide))) kd_o2 1 (by decide) lk_X5_9 rfl rfl ?_
  refine g_iconst (v := (0 : Int32)) C dX5_copyFrom_12 (by decide) ?_
  refine g_aload_n C dX5_copyFrom_13 rfl 0 rfl ?_
  refine g_getR (k2 := (o + 1)) C ok5 dX5_copyFrom_14 (hL _ (prF_of kd_o (by decide))) kd_o 1 (by decide) lk_X5_9 rfl rfl ?_
  refine g_iconst (v := (0 : Int32)) C dX5_copyFrom_17 (by decide) ?_
  refine g_bipush (v := (10 : Int32)) C dX5_copyFrom_18 (by decide) ?_
  refine g_copy C lk_X5_37 nat_copy sm_copy ini_System (hL _ (prF_of (kdS1 kd_o2) (by decide))) (kdS1 kd_o2) (lnS1 kd_o2) (hL _ (prF_of (kdS1 kd_o) (by decide))) (kdS1 kd_o) (lnS1 kd_o) ⟨Nat.le_of_ble_eq_true rfl, Nat.le_of_ble_eq_true rfl⟩ dX5_copyFrom_20 h ?_
  clear h; intro s22 h
  refine g_aload_n C dX5_copyFrom_23 rfl 1 rfl ?_
  refine g_getR (k2 := (o2 + 2)) C ok5 dX5_copyFrom_24 (hL _ (prF_of kd_o2 (by decide))) kd_o2 2 (by decide) lk_X5_15 rfl rfl ?_
  refine g_iconst (v := (0 : Int32)) C dX5_copyFrom_27 (by decide) ?_
  refine g_aload_n C dX5_copyFrom_28 rfl 0 rfl ?_
  refine g_getR (k2 := (o + 2)) C ok5 dX5_copyFrom_29 (hL _ (prF_of kd_o (by decide))) kd_o 2 (by decide) lk_X5_15 rfl rfl ?_
  refine g_iconst (v := (0 : Int32)) C dX5_copyFrom_32 (by decide) ?_
  refine g_bipush (v := (10 : Int32)) C dX5_copyFrom_33 (by decide) ?_
  refine g_copy C lk_X5_37 nat_copy sm_copy ini_System (hL _ (prF_of (kdS2 kd_o2) (by decide))) (kdS2 kd_o2) (lnS2 kd_o2) (hL _ (prF_of (kdS2 kd_o) (by decide))) (kdS2 kd_o) (lnS2 kd_o) ⟨Nat.le_of_ble_eq_true rfl, Nat.le_of_ble_eq_true rfl⟩ dX5_copyFrom_35 h ?_
  clear h; intro s23 h
  refine g_aload_n C dX5_copyFrom_38 rfl 1 rfl ?_
  refine g_getR (k2 := (o2 + 3)) C ok5 dX5_copyFrom_39 (hL _ (prF_of kd_o2 (by decide))) kd_o2 3 (by decide) lk_X5_18 rfl rfl ?_
  refine g_iconst (v := (0 : Int32)) C dX5_copyFrom_42 (by decide) ?_
  refine g_aload_n C dX5_copyFrom_43 rfl 0 rfl ?_
  refine g_getR (k2 := (o + 3)) C ok5 dX5_copyFrom_44 (hL _ (prF_of kd_o (by decide))) kd_o 3 (by decide) lk_X5_18 rfl rfl ?_
  refine g_iconst (v := (0 : Int32)) C dX5_copyFrom_47 (by decide) ?_
  refine g_bipush (v := (10 : Int32)) C dX5_copyFrom_48 (by decide) ?_
  refine g_copy C lk_X5_37 nat_copy sm_copy ini_System (hL _ (prF_of (kdS3 kd_o2) (by decide))) (kdS3 kd_o2) (lnS3 kd_o2) (hL _ (prF_of (kdS3 kd_o) (by decide))) (kdS3 kd_o) (lnS3 kd_o) ⟨Nat.le_of_ble_eq_true rfl, Nat.le_of_ble_eq_true rfl⟩ dX5_copyFrom_50 h ?_
  clear h; intro s24 h
  refine g_aload_n C dX5_copyFrom_53 rfl 1 rfl ?_
  refine g_getR (k2 := (o2 + 4)) C ok5 dX5_copyFrom_54 (hL _ (prF_of kd_o2 (by decide))) kd_o2 4 (by decide) lk_X5_21 rfl rfl ?_
  refine g_iconst (v := (0 : Int32)) C dX5_copyFrom_57 (by decide) ?_
  refine g_aload_n C dX5_copyFrom_58 rfl 0 rfl ?_
  refine g_getR (k2 := (o + 4)) C ok5 dX5_copyFrom_59 (hL _ (prF_of kd_o (by decide))) kd_o 4 (by decide) lk_X5_21 rfl rfl ?_
  refine g_iconst (v := (0 : Int32)) C dX5_copyFrom_62 (by decide) ?_
  refine g_bipush (v := (10 : Int32)) C dX5_copyFrom_63 (by decide) ?_
  refine g_copy C lk_X5_37 nat_copy sm_copy ini_System (hL _ (prF_of (kdS4 kd_o2) (by decide))) (kdS4 kd_o2) (lnS4 kd_o2) (hL _ (prF_of (kdS4 kd_o) (by decide))) (kdS4 kd_o) (lnS4 kd_o) ⟨Nat.le_of_ble_eq_true rfl, Nat.le_of_ble_eq_true rfl⟩ dX5_copyFrom_65 h ?_
  clear h; intro s25 h
  refine g_aload_n C dX5_copyFrom_68 rfl 0 rfl ?_
  refine g_aload_n C dX5_copyFrom_69 rfl 1 rfl ?_
  refine g_getI C ok5 dX5_copyFrom_70 (hL _ (prF_of kd_o2 (by decide))) kd_o2 5 (by decide) lk_X5_24 rfl ?_
  refine g_put (ty := .int) C ok5 dX5_copyFrom_73 (hL _ (prF_of kd_o (by decide))) kd_o 5 (by decide) lk_X5_24 rfl (tyX5_ok 5 (by decide)) rfl rfl rfl h ?_
  clear h; intro s26 h
  refine g_aload_n C dX5_copyFrom_76 rfl 1 rfl ?_
  refine g_getR (k2 := (o2 + 5)) C ok5 dX5_copyFrom_77 (hL _ (prF_of kd_o2 (by decide))) kd_o2 6 (by decide) lk_X5_28 rfl rfl ?_
  refine g_iconst (v := (0 : Int32)) C dX5_copyFrom_80 (by decide) ?_
  refine g_aload_n C dX5_copyFrom_81 rfl 0 rfl ?_
  refine g_getR (k2 := (o + 5)) C ok5 dX5_copyFrom_82 (hL _ (prF_of kd_o (by decide))) kd_o 6 (by decide) lk_X5_28 rfl rfl ?_
  refine g_iconst (v := (0 : Int32)) C dX5_copyFrom_85 (by decide) ?_
  refine g_bipush (v := (7 : Int32)) C dX5_copyFrom_86 (by decide) ?_
  refine g_copy C lk_X5_37 nat_copy sm_copy ini_System (hL _ (prF_of (kdS5 kd_o2) (by decide))) (kdS5 kd_o2) (lnS5 kd_o2) (hL _ (prF_of (kdS5 kd_o) (by decide))) (kdS5 kd_o) (lnS5 kd_o) ⟨Nat.le_of_ble_eq_true rfl, Nat.le_of_ble_eq_true rfl⟩ dX5_copyFrom_88 h ?_
  clear h; intro s27 h
  refine g_aload_n C dX5_copyFrom_91 rfl 1 rfl ?_
  refine g_getR (k2 := (o2 + 6)) C ok5 dX5_copyFrom_92 (hL _ (prF_of kd_o2 (by decide))) kd_o2 7 (by decide) lk_X5_31 rfl rfl ?_
  refine g_iconst (v := (0 : Int32)) C dX5_copyFrom_95 (by decide) ?_
  refine g_aload_n C dX5_copyFrom_96 rfl 0 rfl ?_
  refine g_getR (k2 := (o + 6)) C ok5 dX5_copyFrom_97 (hL _ (prF_of kd_o (by decide))) kd_o 7 (by decide) lk_X5_31 rfl rfl ?_
  refine g_iconst (v := (0 : Int32)) C dX5_copyFrom_100 (by decide) ?_
  refine g_bipush (v := (7 : Int32)) C dX5_copyFrom_101 (by decide) ?_
  refine g_copy C lk_X5_37 nat_copy sm_copy ini_System (hL _ (prF_of (kdS6 kd_o2) (by decide))) (kdS6 kd_o2) (lnS6 kd_o2) (hL _ (prF_of (kdS6 kd_o) (by decide))) (kdS6 kd_o) (lnS6 kd_o) ⟨Nat.le_of_ble_eq_true rfl, Nat.le_of_ble_eq_true rfl⟩ dX5_copyFrom_103 h ?_
  clear h; intro s28 h
  exact g_vret C hr hlk dX5_copyFrom_106 h
-- X7_image
def F_X7_image (v1 : Int32) (st : St) : Option (Int32 × St) :=
  (if v1 < 0 then some ((-2 : Int32), st) else (if v1 < (2 : Int32) then ck (inb v1 2) (bs (F_X5_copyFrom (8 + 7 * v1.toNatClampNeg) 1 st) (fun (s22 : St) => lt (up s22 0 2 ((s22 0 2) ||| ((1 : Int32) <<< (v1 &&& 31)))) (fun (s23 : St) => some ((1 : Int32), s23)))) else some ((-2 : Int32), st)))
set_option maxHeartbeats 4000000 in
set_option maxRecDepth 100000 in
theorem ct_X7_image (hL : ∀ k, prF k = true → k ∈ L) {v1 : Int32} {st st' : St} {r' : Int32} (h : F_X7_image v1 st = some (r', st')) : Ct l D cy ad A L yX7_image cX7_image 2 (some .int) 3 [.ref (ad 0), .int v1] st (some (.int r')) st' := by
  unfold F_X7_image at h
  refine ct_of (own := RX7) (by decide) rfl (Nat.le_of_ble_eq_true rfl) ?_
  intro p e s m args below meth c C hr hlk
  refine g_sub (lv2 := [(0, .ref (ad 0)), (1, .int v1)]) [0, 1] rfl ?_
  refine g_iload_n C dX7_image_0 rfl 1 rfl ?_
  refine g_if_lt (tgt := 9) C dX7_image_1 (by decide) h ?_ ?_
  · clear h; intro hc1 h
    refine g_bipush (v := (-2 : Int32)) C dX7_image_9 (by decide) ?_
    exact g_iret C hr hlk dX7_image_11 h
  · clear h; intro hc1 h
    refine g_iload_n C dX7_image_4 rfl 1 rfl ?_
    refine g_iconst (v := (2 : Int32)) C dX7_image_5 (by decide) ?_
    refine g_icmp_lt (tgt := 12) C dX7_image_6 (by decide) h ?_ ?_
    · clear h; intro hc6 h
      refine g_aload_n C dX7_image_12 rfl 0 rfl ?_
      refine g_getR (k2 := 22) C ok7 dX7_image_13 (hL 0 rfl) rfl 1 (by decide) lk_X7_16 rfl rfl ?_
      refine g_iload_n C dX7_image_16 rfl 1 rfl ?_
      have hb21 := (ck_some h).1
      refine g_aaldS C dX7_image_17 (hL 22 rfl) rfl rfl rfl h ?_
      clear h; intro h
      refine g_aload_n C dX7_image_18 rfl 0 rfl ?_
      refine g_getR (k2 := 1) C ok7 dX7_image_19 (hL 0 rfl) rfl 0 (by decide) lk_X7_12 rfl rfl ?_
      replace h := bs_some h
      obtain ⟨s22, h1, h⟩ := h
      refine g_cV (As := [.ref (ad 1)]) (rest := []) (stk2 := []) C mf_X5_copyFrom ok5 rfl lk_X7_195 in_X5_copyFrom se_X5_copyFrom dX7_image_22 (hL _ (prF_of (kdIm hb21) (by decide))) (kdIm hb21) rfl rfl rfl ⟨Nat.le_of_ble_eq_true rfl, Nat.le_of_ble_eq_true rfl⟩ (Nat.le_of_ble_eq_true rfl) ⟨Nat.le_refl 0, Nat.le_refl 0⟩ (ct_X5_copyFrom hL h1) ?_
      refine g_aload_n C dX7_image_25 rfl 0 rfl ?_
      refine g_dup C dX7_image_26 rfl ?_
      refine g_getI C ok7 dX7_image_27 (hL 0 rfl) rfl 2 (by decide) lk_X7_192 rfl ?_
      refine g_iconst (v := (1 : Int32)) C dX7_image_30 (by decide) ?_
      refine g_iload_n C dX7_image_31 rfl 1 rfl ?_
      refine g_ishl C dX7_image_32 ?_
      refine g_ior C dX7_image_33 ?_
      refine g_put (ty := .int) C ok7 dX7_image_34 (hL 0 rfl) rfl 2 (by decide) lk_X7_192 rfl (tyX7_ok 2 (by decide)) rfl rfl rfl h ?_
      clear h; intro s23 h
      refine g_iconst (v := (1 : Int32)) C dX7_image_37 (by decide) ?_
      exact g_iret C hr hlk dX7_image_38 h
    · clear h; intro hc6 h
      refine g_bipush (v := (-2 : Int32)) C dX7_image_9 (by decide) ?_
      exact g_iret C hr hlk dX7_image_11 h
-- X7_restore
def F_X7_restore (N : Nat) (v1 : Int32) (st : St) : Option (Int32 × St) :=
  (if v1 < 0 then some ((-2 : Int32), st) else (if v1 < (2 : Int32) then (if (((st 0 2) >>> (v1 &&& 31)) &&& (1 : Int32)) = 0 then some ((-3 : Int32), st) else ck (inb v1 2) (bs (F_X5_copyFrom 1 (8 + 7 * v1.toNatClampNeg) st) (fun (s22 : St) => bs (F_X7_changed N s22) (fun (s23 : St) => some ((1 : Int32), s23))))) else some ((-2 : Int32), st)))
set_option maxHeartbeats 4000000 in
set_option maxRecDepth 100000 in
theorem ct_X7_restore {N : Nat} (hL : ∀ k, prF k = true → k ∈ L) {v1 : Int32} {st st' : St} {r' : Int32} (h : F_X7_restore N v1 st = some (r', st')) : Ct l D cy ad A L yX7_restore cX7_restore 2 (some .int) 4 [.ref (ad 0), .int v1] st (some (.int r')) st' := by
  unfold F_X7_restore at h
  refine ct_of (own := RX7) (by decide) rfl (Nat.le_of_ble_eq_true rfl) ?_
  intro p e s m args below meth c C hr hlk
  refine g_sub (lv2 := [(0, .ref (ad 0)), (1, .int v1)]) [0, 1] rfl ?_
  refine g_iload_n C dX7_restore_0 rfl 1 rfl ?_
  refine g_if_lt (tgt := 9) C dX7_restore_1 (by decide) h ?_ ?_
  · clear h; intro hc1 h
    refine g_bipush (v := (-2 : Int32)) C dX7_restore_9 (by decide) ?_
    exact g_iret C hr hlk dX7_restore_11 h
  · clear h; intro hc1 h
    refine g_iload_n C dX7_restore_4 rfl 1 rfl ?_
    refine g_iconst (v := (2 : Int32)) C dX7_restore_5 (by decide) ?_
    refine g_icmp_lt (tgt := 12) C dX7_restore_6 (by decide) h ?_ ?_
    · clear h; intro hc6 h
      refine g_aload_n C dX7_restore_12 rfl 0 rfl ?_
      refine g_getI C ok7 dX7_restore_13 (hL 0 rfl) rfl 2 (by decide) lk_X7_192 rfl ?_
      refine g_iload_n C dX7_restore_16 rfl 1 rfl ?_
      refine g_ishr C dX7_restore_17 ?_
      refine g_iconst (v := (1 : Int32)) C dX7_restore_18 (by decide) ?_
      refine g_iand C dX7_restore_19 ?_
      refine g_if_ne (tgt := 26) C dX7_restore_20 (by decide) h ?_ ?_
      · clear h; intro hc20 h
        refine g_aload_n C dX7_restore_26 rfl 0 rfl ?_
        refine g_getR (k2 := 1) C ok7 dX7_restore_27 (hL 0 rfl) rfl 0 (by decide) lk_X7_12 rfl rfl ?_
        refine g_aload_n C dX7_restore_30 rfl 0 rfl ?_
        refine g_getR (k2 := 22) C ok7 dX7_restore_31 (hL 0 rfl) rfl 1 (by decide) lk_X7_16 rfl rfl ?_
        refine g_iload_n C dX7_restore_34 rfl 1 rfl ?_
        have hb21 := (ck_some h).1
        refine g_aaldS C dX7_restore_35 (hL 22 rfl) rfl rfl rfl h ?_
        clear h; intro h
        replace h := bs_some h
        obtain ⟨s22, h1, h⟩ := h
        refine g_cV (As := [.ref (ad (8 + 7 * v1.toNatClampNeg))]) (rest := []) (stk2 := []) C mf_X5_copyFrom ok5 rfl lk_X7_195 in_X5_copyFrom se_X5_copyFrom dX7_restore_36 (hL 1 rfl) rfl rfl rfl rfl ⟨Nat.le_of_ble_eq_true rfl, Nat.le_of_ble_eq_true rfl⟩ (Nat.le_of_ble_eq_true rfl) ⟨Nat.le_refl 0, Nat.le_refl 0⟩ (ct_X5_copyFrom hL h1) ?_
        refine g_aload_n C dX7_restore_39 rfl 0 rfl ?_
        replace h := bs_some h
        obtain ⟨s23, h1, h⟩ := h
        refine g_cV (As := []) (rest := []) (stk2 := []) C mf_X7_changed ok7 rfl lk_X7_66 in_X7_changed se_X7_changed dX7_restore_40 (hL 0 rfl) rfl rfl rfl rfl ⟨Nat.le_of_ble_eq_true rfl, Nat.le_of_ble_eq_true rfl⟩ (Nat.le_of_ble_eq_true rfl) ⟨Nat.le_refl 0, Nat.le_refl 0⟩ (ct_X7_changed hL h1) ?_
        refine g_iconst (v := (1 : Int32)) C dX7_restore_43 (by decide) ?_
        exact g_iret C hr hlk dX7_restore_44 h
      · clear h; intro hc20 h
        refine g_bipush (v := (-3 : Int32)) C dX7_restore_23 (by decide) ?_
        exact g_iret C hr hlk dX7_restore_25 h
    · clear h; intro hc6 h
      refine g_bipush (v := (-2 : Int32)) C dX7_restore_9 (by decide) ?_
      exact g_iret C hr hlk dX7_restore_11 h
end SM
