section SM
variable {p : Program} {l : Launch} {e : Env} {s : State} {m : MethodId} {args : Array Value} {below : List Frame} {meth : Method} {c : Code} {D : va_G} {cy : Nat → ClassId} {ad : Nat → Nat} {A : Nat → Prop} {L : List Nat}
-- X8_in
def F_X8_in (v0 : Int32) (v1 : Int32) (v2 : Int32) : Option (Int32) :=
  lt (some (0 : Int32)) (fun (j21 : Option (Int32)) => (if v0 < v1 then j21 else (if v2 < v0 then j21 else some (1 : Int32))))
set_option maxHeartbeats 4000000 in
set_option maxRecDepth 100000 in
theorem ct_X8_in (hL : ∀ k, prF k = true → k ∈ L) {v0 : Int32} {v1 : Int32} {v2 : Int32} {st : St} {r' : Int32} (h : F_X8_in v0 v1 v2 = some r') : Ct l D cy ad A L yX8_in cX8_in 3 (some .boolean) 1 [.int v0, .int v1, .int v2] st (some (.int r')) st := by
  unfold F_X8_in at h
  refine ct_of (own := RX8) (by decide) rfl (Nat.le_of_ble_eq_true rfl) ?_
  intro p e s m args below meth c C hr hlk
  refine g_sub (lv2 := [(0, .int v0), (1, .int v1), (2, .int v2)]) [0, 1, 2] rfl ?_
  refine g_iload_n C dX8_in_0 rfl 0 rfl ?_
  refine g_iload_n C dX8_in_1 rfl 1 rfl ?_
  replace h := lt_ex h
  obtain ⟨j21, ej21, h⟩ := h
  have hj21 : j21 = some r' → Gm p l e (rmD 1) s m args below meth c D cy ad A L 3 0 0 (MQ below (QG D cy ad A L (some (.int r')) st) args s 0 0 A) 14 [] [] st := by
    intro h
    rw [ej21] at h
    skip
    refine g_iconst (v := (0 : Int32)) C dX8_in_14 (by decide) ?_
    exact g_zretLP C hr hlk rfl dX8_in_15 h
  refine g_icmp_lt (tgt := 14) C dX8_in_2 (by decide) h ?_ ?_
  · clear h; intro hc2 h
    refine g_sub (lv2 := []) [] rfl ?_
    exact hj21  h
  · clear h; intro hc2 h
    refine g_iload_n C dX8_in_5 rfl 0 rfl ?_
    refine g_iload_n C dX8_in_6 rfl 2 rfl ?_
    refine g_icmp_gt (tgt := 14) C dX8_in_7 (by decide) h ?_ ?_
    · clear h; intro hc7 h
      refine g_sub (lv2 := []) [] rfl ?_
      exact hj21  h
    · clear h; intro hc7 h
      refine g_iconst (v := (1 : Int32)) C dX8_in_10 (by decide) ?_
      refine g_goto (tgt := 15) C dX8_in_11 (by decide) ?_
      exact g_zretLP C hr hlk rfl dX8_in_15 h
-- X8_isVariable
def F_X8_isVariable (v0 : Int32) : Option (Int32) :=
  bs (F_X8_in v0 (0 : Int32) (6 : Int32)) (fun (r21 : Int32) => ck (decide (narrow .boolean (.int r21) = .int r21)) (some r21))
set_option maxHeartbeats 4000000 in
set_option maxRecDepth 100000 in
theorem ct_X8_isVariable (hL : ∀ k, prF k = true → k ∈ L) {v0 : Int32} {st : St} {r' : Int32} (h : F_X8_isVariable v0 = some r') : Ct l D cy ad A L yX8_isVariable cX8_isVariable 1 (some .boolean) 2 [.int v0] st (some (.int r')) st := by
  unfold F_X8_isVariable at h
  refine ct_of (own := RX8) (by decide) rfl (Nat.le_of_ble_eq_true rfl) ?_
  intro p e s m args below meth c C hr hlk
  refine g_sub (lv2 := [(0, .int v0)]) [0] rfl ?_
  refine g_iload_n C dX8_isVariable_0 rfl 0 rfl ?_
  refine g_iconst (v := (0 : Int32)) C dX8_isVariable_1 (by decide) ?_
  refine g_bipush (v := (6 : Int32)) C dX8_isVariable_2 (by decide) ?_
  replace h := bs_some h
  obtain ⟨r21, h1, h⟩ := h
  refine g_cS (As := [.int v0, .int (0 : Int32), .int (6 : Int32)]) (rest := []) (stk2 := [.int r21]) C mf_X8_in lk_X8_83 sm_X8_in dX8_isVariable_4 rfl rfl rfl ⟨Nat.le_of_ble_eq_true rfl, Nat.le_of_ble_eq_true rfl⟩ (Nat.le_of_ble_eq_true rfl) ⟨Nat.le_refl 0, Nat.le_refl 0⟩ (ct_X8_in hL h1) ?_
  exact g_zretP C hr hlk dX8_isVariable_7 h
-- X8_change
def F_X8_change (st : St) : Option (St) :=
  ck (inb (0 : Int32) 2) (lt (up st 78 (0 : Int32).toNatClampNeg (vp_nar .boolean (1 : Int32))) (fun (s21 : St) => ck (inb (1 : Int32) 2) (lt (up s21 78 (1 : Int32).toNatClampNeg (vp_nar .boolean (1 : Int32))) (fun (s22 : St) => some s22))))
set_option maxHeartbeats 4000000 in
set_option maxRecDepth 100000 in
theorem ct_X8_change (hL : ∀ k, prF k = true → k ∈ L) {st st' : St} (h : F_X8_change st = some st') : Ct l D cy ad A L yX8_change cX8_change 1 none 1 [.ref (ad 70)] st none st' := by
  unfold F_X8_change at h
  refine ct_of (own := RX8) (by decide) rfl (Nat.le_of_ble_eq_true rfl) ?_
  intro p e s m args below meth c C hr hlk
  refine g_sub (lv2 := [(0, .ref (ad 70))]) [0] rfl ?_
  refine g_aload_n C dX8_change_0 rfl 0 rfl ?_
  refine g_getR (k2 := 78) C ok8 dX8_change_1 (hL 70 rfl) rfl 8 (by decide) lk_X8_32 rfl rfl ?_
  refine g_iconst (v := (0 : Int32)) C dX8_change_4 (by decide) ?_
  refine g_iconst (v := (1 : Int32)) C dX8_change_5 (by decide) ?_
  refine g_zast C dX8_change_6 (hL 78 rfl) rfl rfl h ?_
  clear h; intro s21 h
  refine g_aload_n C dX8_change_7 rfl 0 rfl ?_
  refine g_getR (k2 := 78) C ok8 dX8_change_8 (hL 70 rfl) rfl 8 (by decide) lk_X8_32 rfl rfl ?_
  refine g_iconst (v := (1 : Int32)) C dX8_change_11 (by decide) ?_
  refine g_iconst (v := (1 : Int32)) C dX8_change_12 (by decide) ?_
  refine g_zast C dX8_change_13 (hL 78 rfl) rfl rfl h ?_
  clear h; intro s22 h
  exact g_vret C hr hlk dX8_change_14 h
-- X8_put
def F_X8_put (v1 : Int32) (v2 : Int32) (v3 : Int32) (v4 : Int32) (st : St) : Option (Int32 × St) :=
  bs (F_X8_in v1 (0 : Int32) (4 : Int32)) (fun (r21 : Int32) => (if r21 = 0 then some ((-2 : Int32), st) else bs (F_X8_isVariable v2) (fun (r22 : Int32) => (if r22 = 0 then some ((-1 : Int32), st) else bs (F_X8_isVariable v3) (fun (r23 : Int32) => (if r23 = 0 then some ((-1 : Int32), st) else lt ((if (st 70 0) = (10 : Int32) then some ((-4 : Int32), st) else ck (inb (st 70 0) 10) (lt (up st 71 (st 70 0).toNatClampNeg v1) (fun (s25 : St) => ck (inb (s25 70 0) 10) (lt (up s25 72 (s25 70 0).toNatClampNeg v2) (fun (s26 : St) => ck (inb (s26 70 0) 10) (lt (up s26 73 (s26 70 0).toNatClampNeg v3) (fun (s27 : St) => lt (fun (x28 : Int32) => ck (inb (s27 70 0) 10) (lt (up s27 74 (s27 70 0).toNatClampNeg x28) (fun (s30 : St) => bs (F_X8_change s30) (fun (s31 : St) => lt (up s31 70 0 ((s31 70 0) + (1 : Int32))) (fun (s32 : St) => some ((s31 70 0), s32)))))) (fun (j29 : Int32 → Option (Int32 × St)) => (if v1 ≤ 0 then j29 v3 else j29 v4)))))))))) (fun (j24 : Option (Int32 × St)) => (if v1 ≤ 0 then j24 else bs (F_X8_isVariable v4) (fun (r33 : Int32) => (if r33 = 0 then some ((-1 : Int32), st) else j24))))))))))
set_option maxHeartbeats 4000000 in
set_option maxRecDepth 100000 in
theorem ct_X8_put (hL : ∀ k, prF k = true → k ∈ L) {v1 : Int32} {v2 : Int32} {v3 : Int32} {v4 : Int32} {st st' : St} {r' : Int32} (h : F_X8_put v1 v2 v3 v4 st = some (r', st')) : Ct l D cy ad A L yX8_put cX8_put 5 (some .int) 3 [.ref (ad 70), .int v1, .int v2, .int v3, .int v4] st (some (.int r')) st' := by
  unfold F_X8_put at h
  refine ct_of (own := RX8) (by decide) rfl (Nat.le_of_ble_eq_true rfl) ?_
  intro p e s m args below meth c C hr hlk
  refine g_sub (lv2 := [(0, .ref (ad 70)), (1, .int v1), (2, .int v2), (3, .int v3), (4, .int v4)]) [0, 1, 2, 3, 4] rfl ?_
  refine g_iload_n C dX8_put_0 rfl 1 rfl ?_
  refine g_iconst (v := (0 : Int32)) C dX8_put_1 (by decide) ?_
  refine g_iconst (v := (4 : Int32)) C dX8_put_2 (by decide) ?_
  replace h := bs_some h
  obtain ⟨r21, h1, h⟩ := h
  refine g_cS (As := [.int v1, .int (0 : Int32), .int (4 : Int32)]) (rest := []) (stk2 := [.int r21]) C mf_X8_in lk_X8_83 sm_X8_in dX8_put_3 rfl rfl rfl ⟨Nat.le_of_ble_eq_true rfl, Nat.le_of_ble_eq_true rfl⟩ (Nat.le_of_ble_eq_true rfl) ⟨Nat.le_refl 0, Nat.le_refl 0⟩ (ct_X8_in hL h1) ?_
  refine g_if_ne (tgt := 12) C dX8_put_6 (by decide) h ?_ ?_
  · clear h; intro hc6 h
    refine g_iload_n C dX8_put_12 rfl 2 rfl ?_
    replace h := bs_some h
    obtain ⟨r22, h1, h⟩ := h
    refine g_cS (As := [.int v2]) (rest := []) (stk2 := [.int r22]) C mf_X8_isVariable lk_X8_91 sm_X8_isVariable dX8_put_13 rfl rfl rfl ⟨Nat.le_of_ble_eq_true rfl, Nat.le_of_ble_eq_true rfl⟩ (Nat.le_of_ble_eq_true rfl) ⟨Nat.le_refl 0, Nat.le_refl 0⟩ (ct_X8_isVariable hL h1) ?_
    refine g_if_eq (tgt := 38) C dX8_put_16 (by decide) h ?_ ?_
    · clear h; intro hc16 h
      refine g_iconst (v := (-1 : Int32)) C dX8_put_38 (by decide) ?_
      exact g_iret C hr hlk dX8_put_39 h
    · clear h; intro hc16 h
      refine g_iload_n C dX8_put_19 rfl 3 rfl ?_
      replace h := bs_some h
      obtain ⟨r23, h1, h⟩ := h
      refine g_cS (As := [.int v3]) (rest := []) (stk2 := [.int r23]) C mf_X8_isVariable lk_X8_91 sm_X8_isVariable dX8_put_20 rfl rfl rfl ⟨Nat.le_of_ble_eq_true rfl, Nat.le_of_ble_eq_true rfl⟩ (Nat.le_of_ble_eq_true rfl) ⟨Nat.le_refl 0, Nat.le_refl 0⟩ (ct_X8_isVariable hL h1) ?_
      refine g_if_eq (tgt := 38) C dX8_put_23 (by decide) h ?_ ?_
      · clear h; intro hc23 h
        refine g_iconst (v := (-1 : Int32)) C dX8_put_38 (by decide) ?_
        exact g_iret C hr hlk dX8_put_39 h
      · clear h; intro hc23 h
        refine g_iload_n C dX8_put_26 rfl 1 rfl ?_
        replace h := lt_ex h
        obtain ⟨j24, ej24, h⟩ := h
        have hj24 : j24 = some (r', st') → Gm p l e (rmD 3) s m args below meth c D cy ad A L 5 0 0 (MQ below (QG D cy ad A L (some (.int r')) st') args s 0 0 A) 40 [(0, .ref (ad 70)), (1, .int v1), (2, .int v2), (3, .int v3), (4, .int v4)] [] st := by
          intro h
          rw [ej24] at h
          skip
          refine g_aload_n C dX8_put_40 rfl 0 rfl ?_
          refine g_getI C ok8 dX8_put_41 (hL 70 rfl) rfl 0 (by decide) lk_X8_87 rfl ?_
          refine g_bipush (v := (10 : Int32)) C dX8_put_44 (by decide) ?_
          refine g_icmp_ne (tgt := 52) C dX8_put_46 (by decide) h ?_ ?_
          · clear h; intro hc46 h
            refine g_aload_n C dX8_put_52 rfl 0 rfl ?_
            refine g_getR (k2 := 71) C ok8 dX8_put_53 (hL 70 rfl) rfl 1 (by decide) lk_X8_7 rfl rfl ?_
            refine g_aload_n C dX8_put_56 rfl 0 rfl ?_
            refine g_getI C ok8 dX8_put_57 (hL 70 rfl) rfl 0 (by decide) lk_X8_87 rfl ?_
            refine g_iload_n C dX8_put_60 rfl 1 rfl ?_
            refine g_iast C dX8_put_61 (hL 71 rfl) rfl rfl h ?_
            clear h; intro s25 h
            refine g_aload_n C dX8_put_62 rfl 0 rfl ?_
            refine g_getR (k2 := 72) C ok8 dX8_put_63 (hL 70 rfl) rfl 2 (by decide) lk_X8_13 rfl rfl ?_
            refine g_aload_n C dX8_put_66 rfl 0 rfl ?_
            refine g_getI C ok8 dX8_put_67 (hL 70 rfl) rfl 0 (by decide) lk_X8_87 rfl ?_
            refine g_iload_n C dX8_put_70 rfl 2 rfl ?_
            refine g_iast C dX8_put_71 (hL 72 rfl) rfl rfl h ?_
            clear h; intro s26 h
            refine g_aload_n C dX8_put_72 rfl 0 rfl ?_
            refine g_getR (k2 := 73) C ok8 dX8_put_73 (hL 70 rfl) rfl 3 (by decide) lk_X8_16 rfl rfl ?_
            refine g_aload_n C dX8_put_76 rfl 0 rfl ?_
            refine g_getI C ok8 dX8_put_77 (hL 70 rfl) rfl 0 (by decide) lk_X8_87 rfl ?_
            refine g_iload_n C dX8_put_80 rfl 3 rfl ?_
            refine g_iast C dX8_put_81 (hL 73 rfl) rfl rfl h ?_
            clear h; intro s27 h
            refine g_aload_n C dX8_put_82 rfl 0 rfl ?_
            refine g_getR (k2 := 74) C ok8 dX8_put_83 (hL 70 rfl) rfl 4 (by decide) lk_X8_19 rfl rfl ?_
            refine g_aload_n C dX8_put_86 rfl 0 rfl ?_
            refine g_getI C ok8 dX8_put_87 (hL 70 rfl) rfl 0 (by decide) lk_X8_87 rfl ?_
            refine g_iload_n C dX8_put_90 rfl 1 rfl ?_
            replace h := lt_ex h
            obtain ⟨j29, ej29, h⟩ := h
            have hj29 : ∀ (x28 : Int32), j29 x28 = some (r', st') → Gm p l e (rmD 3) s m args below meth c D cy ad A L 5 0 0 (MQ below (QG D cy ad A L (some (.int r')) st') args s 0 0 A) 100 [(0, .ref (ad 70))] [.int x28, .int (s27 70 0), .ref (ad 74)] s27 := by
              intro x28 h
              rw [ej29] at h
              dsimp only at h
              refine g_iast C dX8_put_100 (hL 74 rfl) rfl rfl h ?_
              clear h; intro s30 h
              refine g_aload_n C dX8_put_101 rfl 0 rfl ?_
              replace h := bs_some h
              obtain ⟨s31, h1, h⟩ := h
              refine g_cV (As := []) (rest := []) (stk2 := []) C mf_X8_change ok8 rfl lk_X8_95 in_X8_change se_X8_change dX8_put_102 (hL 70 rfl) rfl rfl rfl rfl ⟨Nat.le_of_ble_eq_true rfl, Nat.le_of_ble_eq_true rfl⟩ (Nat.le_of_ble_eq_true rfl) ⟨Nat.le_refl 0, Nat.le_refl 0⟩ (ct_X8_change hL h1) ?_
              refine g_aload_n C dX8_put_105 rfl 0 rfl ?_
              refine g_dup C dX8_put_106 rfl ?_
              refine g_getI C ok8 dX8_put_107 (hL 70 rfl) rfl 0 (by decide) lk_X8_87 rfl ?_
              refine g_dup_x1 C dX8_put_110 rfl rfl ?_
              refine g_iconst (v := (1 : Int32)) C dX8_put_111 (by decide) ?_
              refine g_iadd C dX8_put_112 ?_
              refine g_put (ty := .int) C ok8 dX8_put_113 (hL 70 rfl) rfl 0 (by decide) lk_X8_87 rfl (tyX8_ok 0 (by decide)) rfl rfl rfl h ?_
              clear h; intro s32 h
              exact g_iret C hr hlk dX8_put_116 h
            refine g_if_le (tgt := 99) C dX8_put_91 (by decide) h ?_ ?_
            · clear h; intro hc91 h
              refine g_iload_n C dX8_put_99 rfl 3 rfl ?_
              refine g_sub (lv2 := [(0, .ref (ad 70))]) [0] rfl ?_
              exact hj29 _ h
            · clear h; intro hc91 h
              refine g_iload C dX8_put_94 4 rfl ?_
              refine g_goto (tgt := 100) C dX8_put_96 (by decide) ?_
              refine g_sub (lv2 := [(0, .ref (ad 70))]) [0] rfl ?_
              exact hj29 _ h
          · clear h; intro hc46 h
            refine g_bipush (v := (-4 : Int32)) C dX8_put_49 (by decide) ?_
            exact g_iret C hr hlk dX8_put_51 h
        refine g_if_le (tgt := 40) C dX8_put_27 (by decide) h ?_ ?_
        · clear h; intro hc27 h
          refine g_sub (lv2 := [(0, .ref (ad 70)), (1, .int v1), (2, .int v2), (3, .int v3), (4, .int v4)]) [0, 1, 2, 3, 4] rfl ?_
          exact hj24  h
        · clear h; intro hc27 h
          refine g_iload C dX8_put_30 4 rfl ?_
          replace h := bs_some h
          obtain ⟨r33, h1, h⟩ := h
          refine g_cS (As := [.int v4]) (rest := []) (stk2 := [.int r33]) C mf_X8_isVariable lk_X8_91 sm_X8_isVariable dX8_put_32 rfl rfl rfl ⟨Nat.le_of_ble_eq_true rfl, Nat.le_of_ble_eq_true rfl⟩ (Nat.le_of_ble_eq_true rfl) ⟨Nat.le_refl 0, Nat.le_refl 0⟩ (ct_X8_isVariable hL h1) ?_
          refine g_if_ne (tgt := 40) C dX8_put_35 (by decide) h ?_ ?_
          · clear h; intro hc35 h
            refine g_sub (lv2 := [(0, .ref (ad 70)), (1, .int v1), (2, .int v2), (3, .int v3), (4, .int v4)]) [0, 1, 2, 3, 4] rfl ?_
            exact hj24  h
          · clear h; intro hc35 h
            refine g_iconst (v := (-1 : Int32)) C dX8_put_38 (by decide) ?_
            exact g_iret C hr hlk dX8_put_39 h
  · clear h; intro hc6 h
    refine g_bipush (v := (-2 : Int32)) C dX8_put_9 (by decide) ?_
    exact g_iret C hr hlk dX8_put_11 h
-- X8_isStatement
def F_X8_isStatement (v1 : Int32) (st : St) : Option (Int32) :=
  bs (F_X8_in v1 (0 : Int32) ((st 70 0) - (1 : Int32))) (fun (r21 : Int32) => ck (decide (narrow .boolean (.int r21) = .int r21)) (some r21))
set_option maxHeartbeats 4000000 in
set_option maxRecDepth 100000 in
theorem ct_X8_isStatement (hL : ∀ k, prF k = true → k ∈ L) {v1 : Int32} {st : St} {r' : Int32} (h : F_X8_isStatement v1 st = some r') : Ct l D cy ad A L yX8_isStatement cX8_isStatement 2 (some .boolean) 2 [.ref (ad 70), .int v1] st (some (.int r')) st := by
  unfold F_X8_isStatement at h
  refine ct_of (own := RX8) (by decide) rfl (Nat.le_of_ble_eq_true rfl) ?_
  intro p e s m args below meth c C hr hlk
  refine g_sub (lv2 := [(0, .ref (ad 70)), (1, .int v1)]) [0, 1] rfl ?_
  refine g_iload_n C dX8_isStatement_0 rfl 1 rfl ?_
  refine g_iconst (v := (0 : Int32)) C dX8_isStatement_1 (by decide) ?_
  refine g_aload_n C dX8_isStatement_2 rfl 0 rfl ?_
  refine g_getI C ok8 dX8_isStatement_3 (hL 70 rfl) rfl 0 (by decide) lk_X8_87 rfl ?_
  refine g_iconst (v := (1 : Int32)) C dX8_isStatement_6 (by decide) ?_
  refine g_isub C dX8_isStatement_7 ?_
  replace h := bs_some h
  obtain ⟨r21, h1, h⟩ := h
  refine g_cS (As := [.int v1, .int (0 : Int32), .int ((st 70 0) - (1 : Int32))]) (rest := []) (stk2 := [.int r21]) C mf_X8_in lk_X8_83 sm_X8_in dX8_isStatement_8 rfl rfl rfl ⟨Nat.le_of_ble_eq_true rfl, Nat.le_of_ble_eq_true rfl⟩ (Nat.le_of_ble_eq_true rfl) ⟨Nat.le_refl 0, Nat.le_refl 0⟩ (ct_X8_in hL h1) ?_
  exact g_zretP C hr hlk dX8_isStatement_11 h
-- X8_drop
def lpB_X8_drop_22 (K92 : St → Option (Int32 × St)) (self : Int32 → St → Option (Int32 × St)) (v2 : Int32) (st : St) : Option (Int32 × St) :=
  (if (st 70 0) ≤ v2 then K92 st else ck (inb (v2 + (1 : Int32)) 10) (ck (inb v2 10) (lt (up st 71 v2.toNatClampNeg (st 71 (v2 + (1 : Int32)).toNatClampNeg)) (fun (s24 : St) => ck (inb (v2 + (1 : Int32)) 10) (ck (inb v2 10) (lt (up s24 72 v2.toNatClampNeg (s24 72 (v2 + (1 : Int32)).toNatClampNeg)) (fun (s25 : St) => ck (inb (v2 + (1 : Int32)) 10) (ck (inb v2 10) (lt (up s25 73 v2.toNatClampNeg (s25 73 (v2 + (1 : Int32)).toNatClampNeg)) (fun (s26 : St) => ck (inb (v2 + (1 : Int32)) 10) (ck (inb v2 10) (lt (up s26 74 v2.toNatClampNeg (s26 74 (v2 + (1 : Int32)).toNatClampNeg)) (fun (s27 : St) => lt (v2 + (1 : Int32)) (fun (v28 : Int32) => self v28 s27))))))))))))))
def lp_X8_drop_22 (K92 : St → Option (Int32 × St)) : Nat → Int32 → St → Option (Int32 × St) := itf (lpB_X8_drop_22 K92) (fun _ _ => none)
def F_X8_drop (N : Nat) (v1 : Int32) (st : St) : Option (Int32 × St) :=
  bs (F_X8_isStatement v1 st) (fun (r21 : Int32) => (if r21 = 0 then some ((-1 : Int32), st) else lt (up st 70 0 ((st 70 0) - (1 : Int32))) (fun (s22 : St) => lt v1 (fun (v23 : Int32) => lp_X8_drop_22 (fun (s29 : St) => bs (F_X8_change s29) (fun (s30 : St) => some ((s30 70 0), s30))) N v23 s22))))
set_option maxHeartbeats 4000000 in
set_option maxRecDepth 100000 in
theorem wlp_X8_drop_22 (C : Cx p s m args c cX8_drop RX8 3 D cy ad A L) (hr : meth.sig.returnType = (some .int)) (hlk : meth.locks = false) (hL : ∀ k, prF k = true → k ∈ L) {N : Nat} {r' : Int32} {st' : St} {K92 : St → Option (Int32 × St)} (hK92 : ∀  (st : St), K92 st = some (r', st') → Gm p l e (rmD 3) s m args below meth c D cy ad A L 3 0 0 (MQ below (QG D cy ad A L (some (.int r')) st') args s 0 0 A) 92 [(0, .ref (ad 70))] [] st) : ∀ (n : Nat) (v2 : Int32) (st : St), lp_X8_drop_22 K92 n v2 st = some (r', st') → Gm p l e (rmD 3) s m args below meth c D cy ad A L 3 0 0 (MQ below (QG D cy ad A L (some (.int r')) st') args s 0 0 A) 22 [(0, .ref (ad 70)), (2, .int v2)] [] st := by
  intro n
  induction n with
  | zero => intro v2 st h; cases h
  | succ n ih =>
    intro v2 st h
    change lpB_X8_drop_22 K92 (lp_X8_drop_22 K92 n) v2 st = some _ at h
    unfold lpB_X8_drop_22 at h
    refine g_iload_n C dX8_drop_22 rfl 1 rfl ?_
    refine g_aload_n C dX8_drop_23 rfl 0 rfl ?_
    refine g_getI C ok8 dX8_drop_24 (hL 70 rfl) rfl 0 (by decide) lk_X8_87 rfl ?_
    refine g_icmp_ge (tgt := 92) C dX8_drop_27 (by decide) h ?_ ?_
    · clear h; intro hc27 h
      refine g_sub (lv2 := [(0, .ref (ad 70))]) [0] rfl ?_
      exact hK92 _ h
    · clear h; intro hc27 h
      refine g_aload_n C dX8_drop_30 rfl 0 rfl ?_
      refine g_getR (k2 := 71) C ok8 dX8_drop_31 (hL 70 rfl) rfl 1 (by decide) lk_X8_7 rfl rfl ?_
      refine g_iload_n C dX8_drop_34 rfl 1 rfl ?_
      refine g_aload_n C dX8_drop_35 rfl 0 rfl ?_
      refine g_getR (k2 := 71) C ok8 dX8_drop_36 (hL 70 rfl) rfl 1 (by decide) lk_X8_7 rfl rfl ?_
      refine g_iload_n C dX8_drop_39 rfl 1 rfl ?_
      refine g_iconst (v := (1 : Int32)) C dX8_drop_40 (by decide) ?_
      refine g_iadd C dX8_drop_41 ?_
      refine g_iald C dX8_drop_42 (hL 71 rfl) rfl rfl h ?_
      clear h; intro h
      refine g_iast C dX8_drop_43 (hL 71 rfl) rfl rfl h ?_
      clear h; intro s24 h
      refine g_aload_n C dX8_drop_44 rfl 0 rfl ?_
      refine g_getR (k2 := 72) C ok8 dX8_drop_45 (hL 70 rfl) rfl 2 (by decide) lk_X8_13 rfl rfl ?_
      refine g_iload_n C dX8_drop_48 rfl 1 rfl ?_
      refine g_aload_n C dX8_drop_49 rfl 0 rfl ?_
      refine g_getR (k2 := 72) C ok8 dX8_drop_50 (hL 70 rfl) rfl 2 (by decide) lk_X8_13 rfl rfl ?_
      refine g_iload_n C dX8_drop_53 rfl 1 rfl ?_
      refine g_iconst (v := (1 : Int32)) C dX8_drop_54 (by decide) ?_
      refine g_iadd C dX8_drop_55 ?_
      refine g_iald C dX8_drop_56 (hL 72 rfl) rfl rfl h ?_
      clear h; intro h
      refine g_iast C dX8_drop_57 (hL 72 rfl) rfl rfl h ?_
      clear h; intro s25 h
      refine g_aload_n C dX8_drop_58 rfl 0 rfl ?_
      refine g_getR (k2 := 73) C ok8 dX8_drop_59 (hL 70 rfl) rfl 3 (by decide) lk_X8_16 rfl rfl ?_
      refine g_iload_n C dX8_drop_62 rfl 1 rfl ?_
      refine g_aload_n C dX8_drop_63 rfl 0 rfl ?_
      refine g_getR (k2 := 73) C ok8 dX8_drop_64 (hL 70 rfl) rfl 3 (by decide) lk_X8_16 rfl rfl ?_
      refine g_iload_n C dX8_drop_67 rfl 1 rfl ?_
      refine g_iconst (v := (1 : Int32)) C dX8_drop_68 (by decide) ?_
      refine g_iadd C dX8_drop_69 ?_
      refine g_iald C dX8_drop_70 (hL 73 rfl) rfl rfl h ?_
      clear h; intro h
      refine g_iast C dX8_drop_71 (hL 73 rfl) rfl rfl h ?_
      clear h; intro s26 h
      refine g_aload_n C dX8_drop_72 rfl 0 rfl ?_
      refine g_getR (k2 := 74) C ok8 dX8_drop_73 (hL 70 rfl) rfl 4 (by decide) lk_X8_19 rfl rfl ?_
      refine g_iload_n C dX8_drop_76 rfl 1 rfl ?_
      refine g_aload_n C dX8_drop_77 rfl 0 rfl ?_
      refine g_getR (k2 := 74) C ok8 dX8_drop_78 (hL 70 rfl) rfl 4 (by decide) lk_X8_19 rfl rfl ?_
      refine g_iload_n C dX8_drop_81 rfl 1 rfl ?_
      refine g_iconst (v := (1 : Int32)) C dX8_drop_82 (by decide) ?_
      refine g_iadd C dX8_drop_83 ?_
      refine g_iald C dX8_drop_84 (hL 74 rfl) rfl rfl h ?_
      clear h; intro h
      refine g_iast C dX8_drop_85 (hL 74 rfl) rfl rfl h ?_
      clear h; intro s27 h
      refine g_iinc (lv' := fun y => [(2, .int y), (0, .ref (ad 70))]) C dX8_drop_86 1 rfl rfl (by decide) (fun y => rfl) h ?_
      clear h; intro v28 h
      refine g_goto (tgt := 22) C dX8_drop_89 (by decide) ?_
      refine g_sub (lv2 := [(0, .ref (ad 70)), (2, .int v28)]) [1, 0] rfl ?_
      exact ih _ _ h
set_option maxHeartbeats 4000000 in
set_option maxRecDepth 100000 in
theorem ct_X8_drop {N : Nat} (hL : ∀ k, prF k = true → k ∈ L) {v1 : Int32} {st st' : St} {r' : Int32} (h : F_X8_drop N v1 st = some (r', st')) : Ct l D cy ad A L yX8_drop cX8_drop 3 (some .int) 3 [.ref (ad 70), .int v1] st (some (.int r')) st' := by
  unfold F_X8_drop at h
  refine ct_of (own := RX8) (by decide) rfl (Nat.le_of_ble_eq_true rfl) ?_
  intro p e s m args below meth c C hr hlk
  refine g_sub (lv2 := [(0, .ref (ad 70)), (1, .int v1)]) [0, 1] rfl ?_
  refine g_aload_n C dX8_drop_0 rfl 0 rfl ?_
  refine g_iload_n C dX8_drop_1 rfl 1 rfl ?_
  replace h := bs_some h
  obtain ⟨r21, h1, h⟩ := h
  refine g_cV (As := [.int v1]) (rest := []) (stk2 := [.int r21]) C mf_X8_isStatement ok8 rfl lk_X8_98 in_X8_isStatement se_X8_isStatement dX8_drop_2 (hL 70 rfl) rfl rfl rfl rfl ⟨Nat.le_of_ble_eq_true rfl, Nat.le_of_ble_eq_true rfl⟩ (Nat.le_of_ble_eq_true rfl) ⟨Nat.le_refl 0, Nat.le_refl 0⟩ (ct_X8_isStatement hL h1) ?_
  refine g_if_ne (tgt := 10) C dX8_drop_5 (by decide) h ?_ ?_
  · clear h; intro hc5 h
    refine g_aload_n C dX8_drop_10 rfl 0 rfl ?_
    refine g_dup C dX8_drop_11 rfl ?_
    refine g_getI C ok8 dX8_drop_12 (hL 70 rfl) rfl 0 (by decide) lk_X8_87 rfl ?_
    refine g_iconst (v := (1 : Int32)) C dX8_drop_15 (by decide) ?_
    refine g_isub C dX8_drop_16 ?_
    refine g_put (ty := .int) C ok8 dX8_drop_17 (hL 70 rfl) rfl 0 (by decide) lk_X8_87 rfl (tyX8_ok 0 (by decide)) rfl rfl rfl h ?_
    clear h; intro s22 h
    refine g_iload_n C dX8_drop_20 rfl 1 rfl ?_
    refine g_istore_n (lv' := fun y => [(2, .int y), (0, .ref (ad 70)), (1, .int v1)]) C dX8_drop_21 rfl (by decide) (fun y => rfl) h ?_
    clear h; intro v23 h
    refine g_sub (lv2 := [(0, .ref (ad 70)), (2, .int v23)]) [1, 0] rfl ?_
    refine wlp_X8_drop_22 (N := N) C hr hlk hL ?_ _ _ _ h
    · intro s29 h
      refine g_aload_n C dX8_drop_92 rfl 0 rfl ?_
      replace h := bs_some h
      obtain ⟨s30, h1, h⟩ := h
      refine g_cV (As := []) (rest := []) (stk2 := []) C mf_X8_change ok8 rfl lk_X8_95 in_X8_change se_X8_change dX8_drop_93 (hL 70 rfl) rfl rfl rfl rfl ⟨Nat.le_of_ble_eq_true rfl, Nat.le_of_ble_eq_true rfl⟩ (Nat.le_of_ble_eq_true rfl) ⟨Nat.le_refl 0, Nat.le_refl 0⟩ (ct_X8_change hL h1) ?_
      refine g_aload_n C dX8_drop_96 rfl 0 rfl ?_
      refine g_getI C ok8 dX8_drop_97 (hL 70 rfl) rfl 0 (by decide) lk_X8_87 rfl ?_
      exact g_iret C hr hlk dX8_drop_100 h
  · clear h; intro hc5 h
    refine g_iconst (v := (-1 : Int32)) C dX8_drop_8 (by decide) ?_
    exact g_iret C hr hlk dX8_drop_9 h
-- X8_cross
def F_X8_cross (v1 : Int32) (st : St) : Option (Int32 × St) :=
  bs (F_X8_isStatement v1 st) (fun (r21 : Int32) => (if r21 = 0 then some ((-1 : Int32), st) else ck (inb v1 10) ((if (st 71 v1.toNatClampNeg) = 0 then some ((-5 : Int32), st) else ck (inb v1 10) (lt (st 73 v1.toNatClampNeg) (fun (v22 : Int32) => ck (inb v1 10) (ck (inb v1 10) (lt (up st 73 v1.toNatClampNeg (st 74 v1.toNatClampNeg)) (fun (s23 : St) => ck (inb v1 10) (lt (up s23 74 v1.toNatClampNeg v22) (fun (s24 : St) => bs (F_X8_change s24) (fun (s25 : St) => some (v1, s25)))))))))))))
set_option maxHeartbeats 4000000 in
set_option maxRecDepth 100000 in
theorem ct_X8_cross (hL : ∀ k, prF k = true → k ∈ L) {v1 : Int32} {st st' : St} {r' : Int32} (h : F_X8_cross v1 st = some (r', st')) : Ct l D cy ad A L yX8_cross cX8_cross 3 (some .int) 3 [.ref (ad 70), .int v1] st (some (.int r')) st' := by
  unfold F_X8_cross at h
  refine ct_of (own := RX8) (by decide) rfl (Nat.le_of_ble_eq_true rfl) ?_
  intro p e s m args below meth c C hr hlk
  refine g_sub (lv2 := [(0, .ref (ad 70)), (1, .int v1)]) [0, 1] rfl ?_
  refine g_aload_n C dX8_cross_0 rfl 0 rfl ?_
  refine g_iload_n C dX8_cross_1 rfl 1 rfl ?_
  replace h := bs_some h
  obtain ⟨r21, h1, h⟩ := h
  refine g_cV (As := [.int v1]) (rest := []) (stk2 := [.int r21]) C mf_X8_isStatement ok8 rfl lk_X8_98 in_X8_isStatement se_X8_isStatement dX8_cross_2 (hL 70 rfl) rfl rfl rfl rfl ⟨Nat.le_of_ble_eq_true rfl, Nat.le_of_ble_eq_true rfl⟩ (Nat.le_of_ble_eq_true rfl) ⟨Nat.le_refl 0, Nat.le_refl 0⟩ (ct_X8_isStatement hL h1) ?_
  refine g_if_ne (tgt := 10) C dX8_cross_5 (by decide) h ?_ ?_
  · clear h; intro hc5 h
    refine g_aload_n C dX8_cross_10 rfl 0 rfl ?_
    refine g_getR (k2 := 71) C ok8 dX8_cross_11 (hL 70 rfl) rfl 1 (by decide) lk_X8_7 rfl rfl ?_
    refine g_iload_n C dX8_cross_14 rfl 1 rfl ?_
    refine g_iald C dX8_cross_15 (hL 71 rfl) rfl rfl h ?_
    clear h; intro h
    refine g_if_ne (tgt := 22) C dX8_cross_16 (by decide) h ?_ ?_
    · clear h; intro hc16 h
      refine g_aload_n C dX8_cross_22 rfl 0 rfl ?_
      refine g_getR (k2 := 73) C ok8 dX8_cross_23 (hL 70 rfl) rfl 3 (by decide) lk_X8_16 rfl rfl ?_
      refine g_iload_n C dX8_cross_26 rfl 1 rfl ?_
      refine g_iald C dX8_cross_27 (hL 73 rfl) rfl rfl h ?_
      clear h; intro h
      refine g_istore_n (lv' := fun y => [(2, .int y), (0, .ref (ad 70)), (1, .int v1)]) C dX8_cross_28 rfl (by decide) (fun y => rfl) h ?_
      clear h; intro v22 h
      refine g_aload_n C dX8_cross_29 rfl 1 rfl ?_
      refine g_getR (k2 := 73) C ok8 dX8_cross_30 (hL 70 rfl) rfl 3 (by decide) lk_X8_16 rfl rfl ?_
      refine g_iload_n C dX8_cross_33 rfl 2 rfl ?_
      refine g_aload_n C dX8_cross_34 rfl 1 rfl ?_
      refine g_getR (k2 := 74) C ok8 dX8_cross_35 (hL 70 rfl) rfl 4 (by decide) lk_X8_19 rfl rfl ?_
      refine g_iload_n C dX8_cross_38 rfl 2 rfl ?_
      refine g_iald C dX8_cross_39 (hL 74 rfl) rfl rfl h ?_
      clear h; intro h
      refine g_iast C dX8_cross_40 (hL 73 rfl) rfl rfl h ?_
      clear h; intro s23 h
      refine g_aload_n C dX8_cross_41 rfl 1 rfl ?_
      refine g_getR (k2 := 74) C ok8 dX8_cross_42 (hL 70 rfl) rfl 4 (by decide) lk_X8_19 rfl rfl ?_
      refine g_iload_n C dX8_cross_45 rfl 2 rfl ?_
      refine g_iload_n C dX8_cross_46 rfl 0 rfl ?_
      refine g_iast C dX8_cross_47 (hL 74 rfl) rfl rfl h ?_
      clear h; intro s24 h
      refine g_aload_n C dX8_cross_48 rfl 1 rfl ?_
      replace h := bs_some h
      obtain ⟨s25, h1, h⟩ := h
      refine g_cV (As := []) (rest := []) (stk2 := []) C mf_X8_change ok8 rfl lk_X8_95 in_X8_change se_X8_change dX8_cross_49 (hL 70 rfl) rfl rfl rfl rfl ⟨Nat.le_of_ble_eq_true rfl, Nat.le_of_ble_eq_true rfl⟩ (Nat.le_of_ble_eq_true rfl) ⟨Nat.le_refl 0, Nat.le_refl 0⟩ (ct_X8_change hL h1) ?_
      refine g_iload_n C dX8_cross_52 rfl 2 rfl ?_
      exact g_iret C hr hlk dX8_cross_53 h
    · clear h; intro hc16 h
      refine g_bipush (v := (-5 : Int32)) C dX8_cross_19 (by decide) ?_
      exact g_iret C hr hlk dX8_cross_21 h
  · clear h; intro hc5 h
    refine g_iconst (v := (-1 : Int32)) C dX8_cross_8 (by decide) ?_
    exact g_iret C hr hlk dX8_cross_9 h
-- X8_told
def F_X8_told (v1 : Int32) (v2 : Int32) (st : St) : Option (Int32) :=
  bs (F_X8_isStatement v1 st) (fun (r21 : Int32) => (if r21 = 0 then some (-1 : Int32) else if v2 = (0 : Int32) then ck (inb v1 10) (some (st 71 v1.toNatClampNeg)) else (if v2 = (1 : Int32) then ck (inb v1 10) (some (st 72 v1.toNatClampNeg)) else (if v2 = (2 : Int32) then ck (inb v1 10) (some (st 73 v1.toNatClampNeg)) else (if v2 = (3 : Int32) then ck (inb v1 10) ((if (st 71 v1.toNatClampNeg) = 0 then some (-6 : Int32) else ck (inb v1 10) (some (st 74 v1.toNatClampNeg)))) else (some (-2 : Int32)))))))
set_option maxHeartbeats 4000000 in
set_option maxRecDepth 100000 in
theorem ct_X8_told (hL : ∀ k, prF k = true → k ∈ L) {v1 : Int32} {v2 : Int32} {st : St} {r' : Int32} (h : F_X8_told v1 v2 st = some r') : Ct l D cy ad A L yX8_told cX8_told 3 (some .int) 3 [.ref (ad 70), .int v1, .int v2] st (some (.int r')) st := by
  unfold F_X8_told at h
  refine ct_of (own := RX8) (by decide) rfl (Nat.le_of_ble_eq_true rfl) ?_
  intro p e s m args below meth c C hr hlk
  refine g_sub (lv2 := [(0, .ref (ad 70)), (1, .int v1), (2, .int v2)]) [0, 1, 2] rfl ?_
  refine g_aload_n C dX8_told_0 rfl 0 rfl ?_
  refine g_iload_n C dX8_told_1 rfl 1 rfl ?_
  replace h := bs_some h
  obtain ⟨r21, h1, h⟩ := h
  refine g_cV (As := [.int v1]) (rest := []) (stk2 := [.int r21]) C mf_X8_isStatement ok8 rfl lk_X8_98 in_X8_isStatement se_X8_isStatement dX8_told_2 (hL 70 rfl) rfl rfl rfl rfl ⟨Nat.le_of_ble_eq_true rfl, Nat.le_of_ble_eq_true rfl⟩ (Nat.le_of_ble_eq_true rfl) ⟨Nat.le_refl 0, Nat.le_refl 0⟩ (ct_X8_isStatement hL h1) ?_
  refine g_if_ne (tgt := 10) C dX8_told_5 (by decide) h ?_ ?_
  · clear h; intro hc5 h
    refine g_iload_n C dX8_told_10 rfl 2 rfl ?_
    by_cases hs0 : v2 = (0 : Int32)
    · rw [if_pos hs0] at h
      refine g_swIn (k := (0 : Int32)) (tgt := 40) C dX8_told_11 hs0 (by decide) (by decide) rfl (by decide) ?_
      refine g_aload_n C dX8_told_40 rfl 0 rfl ?_
      refine g_getR (k2 := 71) C ok8 dX8_told_41 (hL 70 rfl) rfl 1 (by decide) lk_X8_7 rfl rfl ?_
      refine g_iload_n C dX8_told_44 rfl 1 rfl ?_
      refine g_iald C dX8_told_45 (hL 71 rfl) rfl rfl h ?_
      clear h; intro h
      exact g_iretP C hr hlk dX8_told_46 h
    · rw [if_neg hs0] at h
      by_cases hs1 : v2 = (1 : Int32)
      · rw [if_pos hs1] at h
        refine g_swIn (k := (1 : Int32)) (tgt := 47) C dX8_told_11 hs1 (by decide) (by decide) rfl (by decide) ?_
        refine g_aload_n C dX8_told_47 rfl 0 rfl ?_
        refine g_getR (k2 := 72) C ok8 dX8_told_48 (hL 70 rfl) rfl 2 (by decide) lk_X8_13 rfl rfl ?_
        refine g_iload_n C dX8_told_51 rfl 1 rfl ?_
        refine g_iald C dX8_told_52 (hL 72 rfl) rfl rfl h ?_
        clear h; intro h
        exact g_iretP C hr hlk dX8_told_53 h
      · rw [if_neg hs1] at h
        by_cases hs2 : v2 = (2 : Int32)
        · rw [if_pos hs2] at h
          refine g_swIn (k := (2 : Int32)) (tgt := 54) C dX8_told_11 hs2 (by decide) (by decide) rfl (by decide) ?_
          refine g_aload_n C dX8_told_54 rfl 0 rfl ?_
          refine g_getR (k2 := 73) C ok8 dX8_told_55 (hL 70 rfl) rfl 3 (by decide) lk_X8_16 rfl rfl ?_
          refine g_iload_n C dX8_told_58 rfl 1 rfl ?_
          refine g_iald C dX8_told_59 (hL 73 rfl) rfl rfl h ?_
          clear h; intro h
          exact g_iretP C hr hlk dX8_told_60 h
        · rw [if_neg hs2] at h
          by_cases hs3 : v2 = (3 : Int32)
          · rw [if_pos hs3] at h
            refine g_swIn (k := (3 : Int32)) (tgt := 61) C dX8_told_11 hs3 (by decide) (by decide) rfl (by decide) ?_
            refine g_aload_n C dX8_told_61 rfl 0 rfl ?_
            refine g_getR (k2 := 71) C ok8 dX8_told_62 (hL 70 rfl) rfl 1 (by decide) lk_X8_7 rfl rfl ?_
            refine g_iload_n C dX8_told_65 rfl 1 rfl ?_
            refine g_iald C dX8_told_66 (hL 71 rfl) rfl rfl h ?_
            clear h; intro h
            refine g_if_ne (tgt := 75) C dX8_told_67 (by decide) h ?_ ?_
            · clear h; intro hc67 h
              refine g_aload_n C dX8_told_75 rfl 0 rfl ?_
              refine g_getR (k2 := 74) C ok8 dX8_told_76 (hL 70 rfl) rfl 4 (by decide) lk_X8_19 rfl rfl ?_
              refine g_iload_n C dX8_told_79 rfl 1 rfl ?_
              refine g_iald C dX8_told_80 (hL 74 rfl) rfl rfl h ?_
              clear h; intro h
              exact g_iretP C hr hlk dX8_told_81 h
            · clear h; intro hc67 h
              refine g_bipush (v := (-6 : Int32)) C dX8_told_70 (by decide) ?_
              refine g_goto (tgt := 81) C dX8_told_72 (by decide) ?_
              exact g_iretP C hr hlk dX8_told_81 h
          · rw [if_neg hs3] at h
            have hn0 : ¬ v2.toInt = 0 := fun q => hs0 (Int32.toInt_inj.mp (by rw [q]; decide))
            have hn1 : ¬ v2.toInt = 1 := fun q => hs1 (Int32.toInt_inj.mp (by rw [q]; decide))
            have hn2 : ¬ v2.toInt = 2 := fun q => hs2 (Int32.toInt_inj.mp (by rw [q]; decide))
            have hn3 : ¬ v2.toInt = 3 := fun q => hs3 (Int32.toInt_inj.mp (by rw [q]; decide))
            refine g_swOut (tgt := 82) C dX8_told_11 (by omega) (by decide) ?_
            refine g_bipush (v := (-2 : Int32)) C dX8_told_82 (by decide) ?_
            exact g_iretP C hr hlk dX8_told_84 h
  · clear h; intro hc5 h
    refine g_iconst (v := (-1 : Int32)) C dX8_told_8 (by decide) ?_
    exact g_iretP C hr hlk dX8_told_9 h
-- X8_free
def lpB_X8_free_47 (st : St) (self : Int32 → Int32 → Option (Int32 × St)) (v3 : Int32) (v4 : Int32) : Option (Int32 × St) :=
  (if (7 : Int32) ≤ v4 then some (v3, st) else ck (inb v4 7) ((if (st 77 v4.toNatClampNeg) = 0 then lt (v3 ||| (0 : Int32)) (fun (v29 : Int32) => lt (v4 + (1 : Int32)) (fun (v30 : Int32) => self v29 v30)) else lt (v3 ||| ((1 : Int32) <<< (v4 &&& 31))) (fun (v31 : Int32) => lt (v4 + (1 : Int32)) (fun (v32 : Int32) => self v31 v32)))))
def lp_X8_free_47 (st : St) : Nat → Int32 → Int32 → Option (Int32 × St) := itf (lpB_X8_free_47 st) (fun _ _ => none)
def F_X8_free (N : Nat) (v1 : Int32) (v2 : Int32) (st : St) : Option (Int32 × St) :=
  bs (F_X8_in v1 (1 : Int32) (6 : Int32)) (fun (r21 : Int32) => (if r21 = 0 then some ((-2 : Int32), st) else bs (F_X8_in v2 (0 : Int32) (1 : Int32)) (fun (r22 : Int32) => (if r22 = 0 then some ((-2 : Int32), st) else lt (fun (x23 : Int32) => ck (inb v1 7) (lt (up st 77 v1.toNatClampNeg (vp_nar .boolean x23)) (fun (s25 : St) => bs (F_X8_change s25) (fun (s26 : St) => lt (0 : Int32) (fun (v27 : Int32) => lt (1 : Int32) (fun (v28 : Int32) => lp_X8_free_47 s26  N v27 v28)))))) (fun (j24 : Int32 → Option (Int32 × St)) => (if v2 = (1 : Int32) then j24 (1 : Int32) else j24 (0 : Int32)))))))
set_option maxHeartbeats 4000000 in
set_option maxRecDepth 100000 in
theorem wlp_X8_free_47 (C : Cx p s m args c cX8_free RX8 5 D cy ad A L) (hr : meth.sig.returnType = (some .int)) (hlk : meth.locks = false) (hL : ∀ k, prF k = true → k ∈ L) {N : Nat} {r' : Int32} {st' : St} {st : St} : ∀ (n : Nat) (v3 : Int32) (v4 : Int32), lp_X8_free_47 st n v3 v4 = some (r', st') → Gm p l e (rmD 2) s m args below meth c D cy ad A L 5 0 0 (MQ below (QG D cy ad A L (some (.int r')) st') args s 0 0 A) 47 [(0, .ref (ad 70)), (3, .int v3), (4, .int v4)] [] st := by
  intro n
  induction n with
  | zero => intro v3 v4 h; cases h
  | succ n ih =>
    intro v3 v4 h
    change lpB_X8_free_47 st (lp_X8_free_47 st n) v3 v4 = some _ at h
    unfold lpB_X8_free_47 at h
    refine g_iload C dX8_free_47 2 rfl ?_
    refine g_bipush (v := (7 : Int32)) C dX8_free_49 (by decide) ?_
    refine g_icmp_ge (tgt := 81) C dX8_free_51 (by decide) h ?_ ?_
    · clear h; intro hc51 h
      refine g_iload_n C dX8_free_81 rfl 1 rfl ?_
      exact g_iret C hr hlk dX8_free_82 h
    · clear h; intro hc51 h
      refine g_iload_n C dX8_free_54 rfl 1 rfl ?_
      refine g_aload_n C dX8_free_55 rfl 0 rfl ?_
      refine g_getR (k2 := 77) C ok8 dX8_free_56 (hL 70 rfl) rfl 7 (by decide) lk_X8_28 rfl rfl ?_
      refine g_iload C dX8_free_59 2 rfl ?_
      refine g_zald C dX8_free_61 (hL 77 rfl) rfl rfl h ?_
      clear h; intro h
      refine g_if_eq (tgt := 72) C dX8_free_62 (by decide) h ?_ ?_
      · clear h; intro hc62 h
        refine g_iconst (v := (0 : Int32)) C dX8_free_72 (by decide) ?_
        refine g_ior C dX8_free_73 ?_
        refine g_istore_n (lv' := fun y => [(3, .int y), (0, .ref (ad 70)), (4, .int v4)]) C dX8_free_74 rfl (by decide) (fun y => rfl) h ?_
        clear h; intro v29 h
        refine g_iinc (lv' := fun y => [(4, .int y), (3, .int v29), (0, .ref (ad 70))]) C dX8_free_75 2 rfl rfl (by decide) (fun y => rfl) h ?_
        clear h; intro v30 h
        refine g_goto (tgt := 47) C dX8_free_78 (by decide) ?_
        refine g_sub (lv2 := [(0, .ref (ad 70)), (3, .int v29), (4, .int v30)]) [2, 1, 0] rfl ?_
        exact ih _ _ h
      · clear h; intro hc62 h
        refine g_iconst (v := (1 : Int32)) C dX8_free_65 (by decide) ?_
        refine g_iload C dX8_free_66 2 rfl ?_
        refine g_ishl C dX8_free_68 ?_
        refine g_goto (tgt := 73) C dX8_free_69 (by decide) ?_
        refine g_ior C dX8_free_73 ?_
        refine g_istore_n (lv' := fun y => [(3, .int y), (0, .ref (ad 70)), (4, .int v4)]) C dX8_free_74 rfl (by decide) (fun y => rfl) h ?_
        clear h; intro v31 h
        refine g_iinc (lv' := fun y => [(4, .int y), (3, .int v31), (0, .ref (ad 70))]) C dX8_free_75 2 rfl rfl (by decide) (fun y => rfl) h ?_
        clear h; intro v32 h
        refine g_goto (tgt := 47) C dX8_free_78 (by decide) ?_
        refine g_sub (lv2 := [(0, .ref (ad 70)), (3, .int v31), (4, .int v32)]) [2, 1, 0] rfl ?_
        exact ih _ _ h
set_option maxHeartbeats 4000000 in
set_option maxRecDepth 100000 in
theorem ct_X8_free {N : Nat} (hL : ∀ k, prF k = true → k ∈ L) {v1 : Int32} {v2 : Int32} {st st' : St} {r' : Int32} (h : F_X8_free N v1 v2 st = some (r', st')) : Ct l D cy ad A L yX8_free cX8_free 5 (some .int) 2 [.ref (ad 70), .int v1, .int v2] st (some (.int r')) st' := by
  unfold F_X8_free at h
  refine ct_of (own := RX8) (by decide) rfl (Nat.le_of_ble_eq_true rfl) ?_
  intro p e s m args below meth c C hr hlk
  refine g_sub (lv2 := [(0, .ref (ad 70)), (1, .int v1), (2, .int v2)]) [0, 1, 2] rfl ?_
  refine g_iload_n C dX8_free_0 rfl 1 rfl ?_
  refine g_iconst (v := (1 : Int32)) C dX8_free_1 (by decide) ?_
  refine g_bipush (v := (6 : Int32)) C dX8_free_2 (by decide) ?_
  replace h := bs_some h
  obtain ⟨r21, h1, h⟩ := h
  refine g_cS (As := [.int v1, .int (1 : Int32), .int (6 : Int32)]) (rest := []) (stk2 := [.int r21]) C mf_X8_in lk_X8_83 sm_X8_in dX8_free_4 rfl rfl rfl ⟨Nat.le_of_ble_eq_true rfl, Nat.le_of_ble_eq_true rfl⟩ (Nat.le_of_ble_eq_true rfl) ⟨Nat.le_refl 0, Nat.le_refl 0⟩ (ct_X8_in hL h1) ?_
  refine g_if_eq (tgt := 19) C dX8_free_7 (by decide) h ?_ ?_
  · clear h; intro hc7 h
    refine g_bipush (v := (-2 : Int32)) C dX8_free_19 (by decide) ?_
    exact g_iret C hr hlk dX8_free_21 h
  · clear h; intro hc7 h
    refine g_iload_n C dX8_free_10 rfl 2 rfl ?_
    refine g_iconst (v := (0 : Int32)) C dX8_free_11 (by decide) ?_
    refine g_iconst (v := (1 : Int32)) C dX8_free_12 (by decide) ?_
    replace h := bs_some h
    obtain ⟨r22, h1, h⟩ := h
    refine g_cS (As := [.int v2, .int (0 : Int32), .int (1 : Int32)]) (rest := []) (stk2 := [.int r22]) C mf_X8_in lk_X8_83 sm_X8_in dX8_free_13 rfl rfl rfl ⟨Nat.le_of_ble_eq_true rfl, Nat.le_of_ble_eq_true rfl⟩ (Nat.le_of_ble_eq_true rfl) ⟨Nat.le_refl 0, Nat.le_refl 0⟩ (ct_X8_in hL h1) ?_
    refine g_if_ne (tgt := 22) C dX8_free_16 (by decide) h ?_ ?_
    · clear h; intro hc16 h
      refine g_aload_n C dX8_free_22 rfl 0 rfl ?_
      refine g_getR (k2 := 77) C ok8 dX8_free_23 (hL 70 rfl) rfl 7 (by decide) lk_X8_28 rfl rfl ?_
      refine g_iload_n C dX8_free_26 rfl 1 rfl ?_
      refine g_iload_n C dX8_free_27 rfl 2 rfl ?_
      refine g_iconst (v := (1 : Int32)) C dX8_free_28 (by decide) ?_
      replace h := lt_ex h
      obtain ⟨j24, ej24, h⟩ := h
      have hj24 : ∀ (x23 : Int32), j24 x23 = some (r', st') → Gm p l e (rmD 2) s m args below meth c D cy ad A L 5 0 0 (MQ below (QG D cy ad A L (some (.int r')) st') args s 0 0 A) 37 [(0, .ref (ad 70))] [.int x23, .int v1, .ref (ad 77)] st := by
        intro x23 h
        rw [ej24] at h
        dsimp only at h
        refine g_zast C dX8_free_37 (hL 77 rfl) rfl rfl h ?_
        clear h; intro s25 h
        refine g_aload_n C dX8_free_38 rfl 0 rfl ?_
        replace h := bs_some h
        obtain ⟨s26, h1, h⟩ := h
        refine g_cV (As := []) (rest := []) (stk2 := []) C mf_X8_change ok8 rfl lk_X8_95 in_X8_change se_X8_change dX8_free_39 (hL 70 rfl) rfl rfl rfl rfl ⟨Nat.le_of_ble_eq_true rfl, Nat.le_of_ble_eq_true rfl⟩ (Nat.le_of_ble_eq_true rfl) ⟨Nat.le_refl 0, Nat.le_refl 0⟩ (ct_X8_change hL h1) ?_
        refine g_iconst (v := (0 : Int32)) C dX8_free_42 (by decide) ?_
        refine g_istore_n (lv' := fun y => [(3, .int y), (0, .ref (ad 70))]) C dX8_free_43 rfl (by decide) (fun y => rfl) h ?_
        clear h; intro v27 h
        refine g_iconst (v := (1 : Int32)) C dX8_free_44 (by decide) ?_
        refine g_istore (lv' := fun y => [(4, .int y), (3, .int v27), (0, .ref (ad 70))]) C dX8_free_45 (by decide) (fun y => rfl) h ?_
        clear h; intro v28 h
        refine g_sub (lv2 := [(0, .ref (ad 70)), (3, .int v27), (4, .int v28)]) [2, 1, 0] rfl ?_
        refine wlp_X8_free_47 (N := N) C hr hlk hL  _ _ _ h
      refine g_icmp_ne (tgt := 36) C dX8_free_29 (by decide) h ?_ ?_
      · clear h; intro hc29 h
        refine g_iconst (v := (0 : Int32)) C dX8_free_36 (by decide) ?_
        refine g_sub (lv2 := [(0, .ref (ad 70))]) [0] rfl ?_
        exact hj24 _ h
      · clear h; intro hc29 h
        refine g_iconst (v := (1 : Int32)) C dX8_free_32 (by decide) ?_
        refine g_goto (tgt := 37) C dX8_free_33 (by decide) ?_
        refine g_sub (lv2 := [(0, .ref (ad 70))]) [0] rfl ?_
        exact hj24 _ h
    · clear h; intro hc16 h
      refine g_bipush (v := (-2 : Int32)) C dX8_free_19 (by decide) ?_
      exact g_iret C hr hlk dX8_free_21 h
-- X8_set
def lpB_X8_set_21 (st : St) (self : Int32 → Int32 → Option (Int32 × St)) (v3 : Int32) (v4 : Int32) : Option (Int32 × St) :=
  (if (7 : Int32) ≤ v4 then some (v3, st) else ck (inb v4 7) ((if (st 75 v4.toNatClampNeg) = 0 then lt (v3 + (0 : Int32)) (fun (v25 : Int32) => lt (v4 + (1 : Int32)) (fun (v26 : Int32) => self v25 v26)) else lt (v3 + (1 : Int32)) (fun (v27 : Int32) => lt (v4 + (1 : Int32)) (fun (v28 : Int32) => self v27 v28)))))
def lp_X8_set_21 (st : St) : Nat → Int32 → Int32 → Option (Int32 × St) := itf (lpB_X8_set_21 st) (fun _ _ => none)
def F_X8_set (N : Nat) (v1 : Int32) (v2 : Int32) (st : St) : Option (Int32 × St) :=
  bs (F_X8_isVariable v1) (fun (r21 : Int32) => (if r21 = 0 then some ((-1 : Int32), st) else ck (inb v1 7) (lt (up st 75 v1.toNatClampNeg v2) (fun (s22 : St) => lt (0 : Int32) (fun (v23 : Int32) => lt (0 : Int32) (fun (v24 : Int32) => lp_X8_set_21 s22  N v23 v24))))))
set_option maxHeartbeats 4000000 in
set_option maxRecDepth 100000 in
theorem wlp_X8_set_21 (C : Cx p s m args c cX8_set RX8 5 D cy ad A L) (hr : meth.sig.returnType = (some .int)) (hlk : meth.locks = false) (hL : ∀ k, prF k = true → k ∈ L) {N : Nat} {r' : Int32} {st' : St} {st : St} : ∀ (n : Nat) (v3 : Int32) (v4 : Int32), lp_X8_set_21 st n v3 v4 = some (r', st') → Gm p l e (rmD 3) s m args below meth c D cy ad A L 5 0 0 (MQ below (QG D cy ad A L (some (.int r')) st') args s 0 0 A) 21 [(0, .ref (ad 70)), (3, .int v3), (4, .int v4)] [] st := by
  intro n
  induction n with
  | zero => intro v3 v4 h; cases h
  | succ n ih =>
    intro v3 v4 h
    change lpB_X8_set_21 st (lp_X8_set_21 st n) v3 v4 = some _ at h
    unfold lpB_X8_set_21 at h
    refine g_iload C dX8_set_21 2 rfl ?_
    refine g_bipush (v := (7 : Int32)) C dX8_set_23 (by decide) ?_
    refine g_icmp_ge (tgt := 52) C dX8_set_25 (by decide) h ?_ ?_
    · clear h; intro hc25 h
      refine g_iload_n C dX8_set_52 rfl 1 rfl ?_
      exact g_iret C hr hlk dX8_set_53 h
    · clear h; intro hc25 h
      refine g_iload_n C dX8_set_28 rfl 1 rfl ?_
      refine g_aload_n C dX8_set_29 rfl 0 rfl ?_
      refine g_getR (k2 := 75) C ok8 dX8_set_30 (hL 70 rfl) rfl 5 (by decide) lk_X8_22 rfl rfl ?_
      refine g_iload C dX8_set_33 2 rfl ?_
      refine g_iald C dX8_set_35 (hL 75 rfl) rfl rfl h ?_
      clear h; intro h
      refine g_if_eq (tgt := 43) C dX8_set_36 (by decide) h ?_ ?_
      · clear h; intro hc36 h
        refine g_iconst (v := (0 : Int32)) C dX8_set_43 (by decide) ?_
        refine g_iadd C dX8_set_44 ?_
        refine g_istore_n (lv' := fun y => [(3, .int y), (0, .ref (ad 70)), (4, .int v4)]) C dX8_set_45 rfl (by decide) (fun y => rfl) h ?_
        clear h; intro v25 h
        refine g_iinc (lv' := fun y => [(4, .int y), (3, .int v25), (0, .ref (ad 70))]) C dX8_set_46 2 rfl rfl (by decide) (fun y => rfl) h ?_
        clear h; intro v26 h
        refine g_goto (tgt := 21) C dX8_set_49 (by decide) ?_
        refine g_sub (lv2 := [(0, .ref (ad 70)), (3, .int v25), (4, .int v26)]) [2, 1, 0] rfl ?_
        exact ih _ _ h
      · clear h; intro hc36 h
        refine g_iconst (v := (1 : Int32)) C dX8_set_39 (by decide) ?_
        refine g_goto (tgt := 44) C dX8_set_40 (by decide) ?_
        refine g_iadd C dX8_set_44 ?_
        refine g_istore_n (lv' := fun y => [(3, .int y), (0, .ref (ad 70)), (4, .int v4)]) C dX8_set_45 rfl (by decide) (fun y => rfl) h ?_
        clear h; intro v27 h
        refine g_iinc (lv' := fun y => [(4, .int y), (3, .int v27), (0, .ref (ad 70))]) C dX8_set_46 2 rfl rfl (by decide) (fun y => rfl) h ?_
        clear h; intro v28 h
        refine g_goto (tgt := 21) C dX8_set_49 (by decide) ?_
        refine g_sub (lv2 := [(0, .ref (ad 70)), (3, .int v27), (4, .int v28)]) [2, 1, 0] rfl ?_
        exact ih _ _ h
set_option maxHeartbeats 4000000 in
set_option maxRecDepth 100000 in
theorem ct_X8_set {N : Nat} (hL : ∀ k, prF k = true → k ∈ L) {v1 : Int32} {v2 : Int32} {st st' : St} {r' : Int32} (h : F_X8_set N v1 v2 st = some (r', st')) : Ct l D cy ad A L yX8_set cX8_set 5 (some .int) 3 [.ref (ad 70), .int v1, .int v2] st (some (.int r')) st' := by
  unfold F_X8_set at h
  refine ct_of (own := RX8) (by decide) rfl (Nat.le_of_ble_eq_true rfl) ?_
  intro p e s m args below meth c C hr hlk
  refine g_sub (lv2 := [(0, .ref (ad 70)), (1, .int v1), (2, .int v2)]) [0, 1, 2] rfl ?_
  refine g_iload_n C dX8_set_0 rfl 1 rfl ?_
  replace h := bs_some h
  obtain ⟨r21, h1, h⟩ := h
  refine g_cS (As := [.int v1]) (rest := []) (stk2 := [.int r21]) C mf_X8_isVariable lk_X8_91 sm_X8_isVariable dX8_set_1 rfl rfl rfl ⟨Nat.le_of_ble_eq_true rfl, Nat.le_of_ble_eq_true rfl⟩ (Nat.le_of_ble_eq_true rfl) ⟨Nat.le_refl 0, Nat.le_refl 0⟩ (ct_X8_isVariable hL h1) ?_
  refine g_if_ne (tgt := 9) C dX8_set_4 (by decide) h ?_ ?_
  · clear h; intro hc4 h
    refine g_aload_n C dX8_set_9 rfl 0 rfl ?_
    refine g_getR (k2 := 75) C ok8 dX8_set_10 (hL 70 rfl) rfl 5 (by decide) lk_X8_22 rfl rfl ?_
    refine g_iload_n C dX8_set_13 rfl 1 rfl ?_
    refine g_iload_n C dX8_set_14 rfl 2 rfl ?_
    refine g_iast C dX8_set_15 (hL 75 rfl) rfl rfl h ?_
    clear h; intro s22 h
    refine g_iconst (v := (0 : Int32)) C dX8_set_16 (by decide) ?_
    refine g_istore_n (lv' := fun y => [(3, .int y), (0, .ref (ad 70)), (1, .int v1), (2, .int v2)]) C dX8_set_17 rfl (by decide) (fun y => rfl) h ?_
    clear h; intro v23 h
    refine g_iconst (v := (0 : Int32)) C dX8_set_18 (by decide) ?_
    refine g_istore (lv' := fun y => [(4, .int y), (3, .int v23), (0, .ref (ad 70)), (1, .int v1), (2, .int v2)]) C dX8_set_19 (by decide) (fun y => rfl) h ?_
    clear h; intro v24 h
    refine g_sub (lv2 := [(0, .ref (ad 70)), (3, .int v23), (4, .int v24)]) [2, 1, 0] rfl ?_
    refine wlp_X8_set_21 (N := N) C hr hlk hL  _ _ _ h
  · clear h; intro hc4 h
    refine g_iconst (v := (-1 : Int32)) C dX8_set_7 (by decide) ?_
    exact g_iret C hr hlk dX8_set_8 h
-- X8_value
def F_X8_value (v1 : Int32) (st : St) : Option (Int64) :=
  bs (F_X8_isVariable v1) (fun (r21 : Int32) => (if r21 = 0 then some (-10000000001 : Int64) else ck (inb v1 7) (some ((st 75 v1.toNatClampNeg).toInt64))))
set_option maxHeartbeats 4000000 in
set_option maxRecDepth 100000 in
theorem ct_X8_value (hL : ∀ k, prF k = true → k ∈ L) {v1 : Int32} {st : St} {r' : Int64} (h : F_X8_value v1 st = some r') : Ct l D cy ad A L yX8_value cX8_value 2 (some .long) 3 [.ref (ad 70), .int v1] st (some (.long r')) st := by
  unfold F_X8_value at h
  refine ct_of (own := RX8) (by decide) rfl (Nat.le_of_ble_eq_true rfl) ?_
  intro p e s m args below meth c C hr hlk
  refine g_sub (lv2 := [(0, .ref (ad 70)), (1, .int v1)]) [0, 1] rfl ?_
  refine g_iload_n C dX8_value_0 rfl 1 rfl ?_
  replace h := bs_some h
  obtain ⟨r21, h1, h⟩ := h
  refine g_cS (As := [.int v1]) (rest := []) (stk2 := [.int r21]) C mf_X8_isVariable lk_X8_91 sm_X8_isVariable dX8_value_1 rfl rfl rfl ⟨Nat.le_of_ble_eq_true rfl, Nat.le_of_ble_eq_true rfl⟩ (Nat.le_of_ble_eq_true rfl) ⟨Nat.le_refl 0, Nat.le_refl 0⟩ (ct_X8_isVariable hL h1) ?_
  refine g_if_eq (tgt := 17) C dX8_value_4 (by decide) h ?_ ?_
  · clear h; intro hc4 h
    refine g_ldc2 C kc_X8_101 dX8_value_17 ?_
    exact g_lretP C hr hlk dX8_value_20 h
  · clear h; intro hc4 h
    refine g_aload_n C dX8_value_7 rfl 0 rfl ?_
    refine g_getR (k2 := 75) C ok8 dX8_value_8 (hL 70 rfl) rfl 5 (by decide) lk_X8_22 rfl rfl ?_
    refine g_iload_n C dX8_value_11 rfl 1 rfl ?_
    refine g_iald C dX8_value_12 (hL 75 rfl) rfl rfl h ?_
    clear h; intro h
    refine g_i2l C dX8_value_13 ?_
    refine g_goto (tgt := 20) C dX8_value_14 (by decide) ?_
    exact g_lretP C hr hlk dX8_value_20 h
-- X8_has
def F_X8_has (v0 : Int32) (v1 : Int32) : Option (Int32) :=
  (if ((v0 >>> (v1 &&& 31)) &&& (1 : Int32)) = (1 : Int32) then some (1 : Int32) else some (0 : Int32))
set_option maxHeartbeats 4000000 in
set_option maxRecDepth 100000 in
theorem ct_X8_has (hL : ∀ k, prF k = true → k ∈ L) {v0 : Int32} {v1 : Int32} {st : St} {r' : Int32} (h : F_X8_has v0 v1 = some r') : Ct l D cy ad A L yX8_has cX8_has 2 (some .boolean) 1 [.int v0, .int v1] st (some (.int r')) st := by
  unfold F_X8_has at h
  refine ct_of (own := RX8) (by decide) rfl (Nat.le_of_ble_eq_true rfl) ?_
  intro p e s m args below meth c C hr hlk
  refine g_sub (lv2 := [(0, .int v0), (1, .int v1)]) [0, 1] rfl ?_
  refine g_iload_n C dX8_has_0 rfl 0 rfl ?_
  refine g_iload_n C dX8_has_1 rfl 1 rfl ?_
  refine g_ishr C dX8_has_2 ?_
  refine g_iconst (v := (1 : Int32)) C dX8_has_3 (by decide) ?_
  refine g_iand C dX8_has_4 ?_
  refine g_iconst (v := (1 : Int32)) C dX8_has_5 (by decide) ?_
  refine g_icmp_ne (tgt := 13) C dX8_has_6 (by decide) h ?_ ?_
  · clear h; intro hc6 h
    refine g_iconst (v := (0 : Int32)) C dX8_has_13 (by decide) ?_
    exact g_zretLP C hr hlk rfl dX8_has_14 h
  · clear h; intro hc6 h
    refine g_iconst (v := (1 : Int32)) C dX8_has_9 (by decide) ?_
    refine g_goto (tgt := 14) C dX8_has_10 (by decide) ?_
    exact g_zretLP C hr hlk rfl dX8_has_14 h
end SM
