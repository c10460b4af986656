section SM
variable {p : Program} {l : Launch} {e : Env} {s : State} {m : MethodId} {args : Array Value} {below : List Frame} {meth : Method} {c : Code} {D : va_G} {cy : Nat → ClassId} {ad : Nat → Nat} {A : Nat → Prop} {L : List Nat}
-- X8_layWeights
def lpB_X8_layWeights_2 (K21 : St → Option (St)) (self : Int32 → St → Option (St)) (v1 : Int32) (st : St) : Option (St) :=
  (if (49 : Int32) ≤ v1 then K21 st else ck (inb v1 49) (lt (up st 88 v1.toNatClampNeg (0 : Int32)) (fun (s22 : St) => lt (v1 + (1 : Int32)) (fun (v23 : Int32) => self v23 s22))))
def lp_X8_layWeights_2 (K21 : St → Option (St)) : Nat → Int32 → St → Option (St) := itf (lpB_X8_layWeights_2 K21) (fun _ _ => none)
def lpB_X8_layWeights_29 (v1 : Int32) (self : Int32 → St → Option (St)) (v2 : Int32) (st : St) : Option (St) :=
  (if v1 ≤ v2 then some st else ck (inb v2 30) (ck (inb (v2 - (1 : Int32)) 30) ((if (st 79 v2.toNatClampNeg) = (st 79 (v2 - (1 : Int32)).toNatClampNeg) then lt (v2 + (1 : Int32)) (fun (v29 : Int32) => self v29 st) else ck (inb v2 30) (ck (inb (v2 - (1 : Int32)) 30) (ck (inb (((7 : Int32) * (st 79 v2.toNatClampNeg)) + (st 79 (v2 - (1 : Int32)).toNatClampNeg)) 49) (ck (inb (((7 : Int32) * (st 79 v2.toNatClampNeg)) + (st 79 (v2 - (1 : Int32)).toNatClampNeg)) 49) (lt (up st 88 (((7 : Int32) * (st 79 v2.toNatClampNeg)) + (st 79 (v2 - (1 : Int32)).toNatClampNeg)).toNatClampNeg ((st 88 (((7 : Int32) * (st 79 v2.toNatClampNeg)) + (st 79 (v2 - (1 : Int32)).toNatClampNeg)).toNatClampNeg) + (1 : Int32))) (fun (s30 : St) => ck (inb (v2 - (1 : Int32)) 30) (ck (inb v2 30) (ck (inb (((7 : Int32) * (s30 79 (v2 - (1 : Int32)).toNatClampNeg)) + (s30 79 v2.toNatClampNeg)) 49) (ck (inb (((7 : Int32) * (s30 79 (v2 - (1 : Int32)).toNatClampNeg)) + (s30 79 v2.toNatClampNeg)) 49) (lt (up s30 88 (((7 : Int32) * (s30 79 (v2 - (1 : Int32)).toNatClampNeg)) + (s30 79 v2.toNatClampNeg)).toNatClampNeg ((s30 88 (((7 : Int32) * (s30 79 (v2 - (1 : Int32)).toNatClampNeg)) + (s30 79 v2.toNatClampNeg)).toNatClampNeg) + (1 : Int32))) (fun (s31 : St) => lt (v2 + (1 : Int32)) (fun (v32 : Int32) => self v32 s31)))))))))))))))
def lp_X8_layWeights_29 (v1 : Int32) : Nat → Int32 → St → Option (St) := itf (lpB_X8_layWeights_29 v1) (fun _ _ => none)
def F_X8_layWeights (N : Nat) (st : St) : Option (St) :=
  lt (0 : Int32) (fun (v21 : Int32) => lp_X8_layWeights_2 (fun (s24 : St) => bd (F_X8_layLine N (0 : Int32) s24) (fun (r25 : Int32) (s26 : St) => lt r25 (fun (v27 : Int32) => lt (1 : Int32) (fun (v28 : Int32) => lp_X8_layWeights_29 v27  N v28 s26)))) N v21 st)
set_option maxHeartbeats 4000000 in
set_option maxRecDepth 100000 in
theorem wlp_X8_layWeights_2 (C : Cx p s m args c cX8_layWeights RX8 3 D cy ad A L) (hr : meth.sig.returnType = none) (hlk : meth.locks = false) (hL : ∀ k, prF k = true → k ∈ L) {N : Nat} {st' : St} {K21 : St → Option (St)} (hK21 : ∀  (st : St), K21 st = some st' → Gm p l e (rmD 3) s m args below meth c D cy ad A L 3 0 0 (MQ below (QG D cy ad A L none st') args s 0 0 A) 21 [(0, .ref (ad 70))] [] st) : ∀ (n : Nat) (v1 : Int32) (st : St), lp_X8_layWeights_2 K21 n v1 st = some st' → Gm p l e (rmD 3) s m args below meth c D cy ad A L 3 0 0 (MQ below (QG D cy ad A L none st') args s 0 0 A) 2 [(0, .ref (ad 70)), (1, .int v1)] [] st := by
  intro n
  induction n with
  | zero => intro v1 st h; cases h
  | succ n ih =>
    intro v1 st h
    change lpB_X8_layWeights_2 K21 (lp_X8_layWeights_2 K21 n) v1 st = some _ at h
    unfold lpB_X8_layWeights_2 at h
    refine g_iload_n C dX8_layWeights_2 rfl 1 rfl ?_
    refine g_bipush (v := (49 : Int32)) C dX8_layWeights_3 (by decide) ?_
    refine g_icmp_ge (tgt := 21) C dX8_layWeights_5 (by decide) h ?_ ?_
    · clear h; intro hc5 h
      refine g_sub (lv2 := [(0, .ref (ad 70))]) [0] rfl ?_
      exact hK21 _ h
    · clear h; intro hc5 h
      refine g_aload_n C dX8_layWeights_8 rfl 0 rfl ?_
      refine g_getR (k2 := 88) C ok8 dX8_layWeights_9 (hL 70 rfl) rfl 21 (by decide) lk_X8_62 rfl rfl ?_
      refine g_iload_n C dX8_layWeights_12 rfl 1 rfl ?_
      refine g_iconst (v := (0 : Int32)) C dX8_layWeights_13 (by decide) ?_
      refine g_iast C dX8_layWeights_14 (hL 88 rfl) rfl rfl h ?_
      clear h; intro s22 h
      refine g_iinc (lv' := fun y => [(1, .int y), (0, .ref (ad 70))]) C dX8_layWeights_15 1 rfl rfl (by decide) (fun y => rfl) h ?_
      clear h; intro v23 h
      refine g_goto (tgt := 2) C dX8_layWeights_18 (by decide) ?_
      refine g_sub (lv2 := [(0, .ref (ad 70)), (1, .int v23)]) [1, 0] rfl ?_
      exact ih _ _ h
set_option maxHeartbeats 4000000 in
set_option maxRecDepth 100000 in
theorem wlp_X8_layWeights_29 (C : Cx p s m args c cX8_layWeights RX8 3 D cy ad A L) (hr : meth.sig.returnType = none) (hlk : meth.locks = false) (hL : ∀ k, prF k = true → k ∈ L) {N : Nat} {v1 : Int32} {st' : St} : ∀ (n : Nat) (v2 : Int32) (st : St), lp_X8_layWeights_29 v1 n v2 st = some st' → Gm p l e (rmD 3) s m args below meth c D cy ad A L 3 0 0 (MQ below (QG D cy ad A L none st') args s 0 0 A) 29 [(0, .ref (ad 70)), (1, .int v1), (2, .int v2)] [] st := by
  intro n
  induction n with
  | zero => intro v2 st h; cases h
  | succ n ih =>
    intro v2 st h
    change lpB_X8_layWeights_29 v1 (lp_X8_layWeights_29 v1 n) v2 st = some _ at h
    unfold lpB_X8_layWeights_29 at h
    refine g_iload_n C dX8_layWeights_29 rfl 2 rfl ?_
    refine g_iload_n C dX8_layWeights_30 rfl 1 rfl ?_
    refine g_icmp_ge (tgt := 111) C dX8_layWeights_31 (by decide) h ?_ ?_
    · clear h; intro hc31 h
      exact g_vret C hr hlk dX8_layWeights_111 h
    · clear h; intro hc31 h
      refine g_aload_n C dX8_layWeights_34 rfl 0 rfl ?_
      refine g_getR (k2 := 79) C ok8 dX8_layWeights_35 (hL 70 rfl) rfl 9 (by decide) lk_X8_35 rfl rfl ?_
      refine g_iload_n C dX8_layWeights_38 rfl 2 rfl ?_
      refine g_iald C dX8_layWeights_39 (hL 79 rfl) rfl rfl h ?_
      clear h; intro h
      refine g_aload_n C dX8_layWeights_40 rfl 0 rfl ?_
      refine g_getR (k2 := 79) C ok8 dX8_layWeights_41 (hL 70 rfl) rfl 9 (by decide) lk_X8_35 rfl rfl ?_
      refine g_iload_n C dX8_layWeights_44 rfl 2 rfl ?_
      refine g_iconst (v := (1 : Int32)) C dX8_layWeights_45 (by decide) ?_
      refine g_isub C dX8_layWeights_46 ?_
      refine g_iald C dX8_layWeights_47 (hL 79 rfl) rfl rfl h ?_
      clear h; intro h
      refine g_icmp_eq (tgt := 105) C dX8_layWeights_48 (by decide) h ?_ ?_
      · clear h; intro hc48 h
        refine g_iinc (lv' := fun y => [(2, .int y), (0, .ref (ad 70)), (1, .int v1)]) C dX8_layWeights_105 2 rfl rfl (by decide) (fun y => rfl) h ?_
        clear h; intro v29 h
        refine g_goto (tgt := 29) C dX8_layWeights_108 (by decide) ?_
        refine g_sub (lv2 := [(0, .ref (ad 70)), (1, .int v1), (2, .int v29)]) [1, 2, 0] rfl ?_
        exact ih _ _ h
      · clear h; intro hc48 h
        refine g_aload_n C dX8_layWeights_51 rfl 0 rfl ?_
        refine g_getR (k2 := 88) C ok8 dX8_layWeights_52 (hL 70 rfl) rfl 21 (by decide) lk_X8_62 rfl rfl ?_
        refine g_bipush (v := (7 : Int32)) C dX8_layWeights_55 (by decide) ?_
        refine g_aload_n C dX8_layWeights_57 rfl 0 rfl ?_
        refine g_getR (k2 := 79) C ok8 dX8_layWeights_58 (hL 70 rfl) rfl 9 (by decide) lk_X8_35 rfl rfl ?_
        refine g_iload_n C dX8_layWeights_61 rfl 2 rfl ?_
        refine g_iald C dX8_layWeights_62 (hL 79 rfl) rfl rfl h ?_
        clear h; intro h
        refine g_imul C dX8_layWeights_63 ?_
        refine g_aload_n C dX8_layWeights_64 rfl 0 rfl ?_
        refine g_getR (k2 := 79) C ok8 dX8_layWeights_65 (hL 70 rfl) rfl 9 (by decide) lk_X8_35 rfl rfl ?_
        refine g_iload_n C dX8_layWeights_68 rfl 2 rfl ?_
        refine g_iconst (v := (1 : Int32)) C dX8_layWeights_69 (by decide) ?_
        refine g_isub C dX8_layWeights_70 ?_
        refine g_iald C dX8_layWeights_71 (hL 79 rfl) rfl rfl h ?_
        clear h; intro h
        refine g_iadd C dX8_layWeights_72 ?_
        refine g_dup2 C dX8_layWeights_73 rfl rfl ?_
        refine g_iald C dX8_layWeights_74 (hL 88 rfl) rfl rfl h ?_
        clear h; intro h
        refine g_iconst (v := (1 : Int32)) C dX8_layWeights_75 (by decide) ?_
        refine g_iadd C dX8_layWeights_76 ?_
        refine g_iast C dX8_layWeights_77 (hL 88 rfl) rfl rfl h ?_
        clear h; intro s30 h
        refine g_aload_n C dX8_layWeights_78 rfl 0 rfl ?_
        refine g_getR (k2 := 88) C ok8 dX8_layWeights_79 (hL 70 rfl) rfl 21 (by decide) lk_X8_62 rfl rfl ?_
        refine g_bipush (v := (7 : Int32)) C dX8_layWeights_82 (by decide) ?_
        refine g_aload_n C dX8_layWeights_84 rfl 0 rfl ?_
        refine g_getR (k2 := 79) C ok8 dX8_layWeights_85 (hL 70 rfl) rfl 9 (by decide) lk_X8_35 rfl rfl ?_
        refine g_iload_n C dX8_layWeights_88 rfl 2 rfl ?_
        refine g_iconst (v := (1 : Int32)) C dX8_layWeights_89 (by decide) ?_
        refine g_isub C dX8_layWeights_90 ?_
        refine g_iald C dX8_layWeights_91 (hL 79 rfl) rfl rfl h ?_
        clear h; intro h
        refine g_imul C dX8_layWeights_92 ?_
        refine g_aload_n C dX8_layWeights_93 rfl 0 rfl ?_
        refine g_getR (k2 := 79) C ok8 dX8_layWeights_94 (hL 70 rfl) rfl 9 (by decide) lk_X8_35 rfl rfl ?_
        refine g_iload_n C dX8_layWeights_97 rfl 2 rfl ?_
        refine g_iald C dX8_layWeights_98 (hL 79 rfl) rfl rfl h ?_
        clear h; intro h
        refine g_iadd C dX8_layWeights_99 ?_
        refine g_dup2 C dX8_layWeights_100 rfl rfl ?_
        refine g_iald C dX8_layWeights_101 (hL 88 rfl) rfl rfl h ?_
        clear h; intro h
        refine g_iconst (v := (1 : Int32)) C dX8_layWeights_102 (by decide) ?_
        refine g_iadd C dX8_layWeights_103 ?_
        refine g_iast C dX8_layWeights_104 (hL 88 rfl) rfl rfl h ?_
        clear h; intro s31 h
        refine g_iinc (lv' := fun y => [(2, .int y), (0, .ref (ad 70)), (1, .int v1)]) C dX8_layWeights_105 2 rfl rfl (by decide) (fun y => rfl) h ?_
        clear h; intro v32 h
        refine g_goto (tgt := 29) C dX8_layWeights_108 (by decide) ?_
        refine g_sub (lv2 := [(0, .ref (ad 70)), (1, .int v1), (2, .int v32)]) [1, 2, 0] rfl ?_
        exact ih _ _ h
set_option maxHeartbeats 4000000 in
set_option maxRecDepth 100000 in
theorem ct_X8_layWeights {N : Nat} (hL : ∀ k, prF k = true → k ∈ L) {st st' : St} (h : F_X8_layWeights N st = some st') : Ct l D cy ad A L yX8_layWeights cX8_layWeights 3 none 3 [.ref (ad 70)] st none st' := by
  unfold F_X8_layWeights at h
  refine ct_of (own := RX8) (by decide) rfl (Nat.le_of_ble_eq_true rfl) ?_
  intro p e s m args below meth c C hr hlk
  refine g_sub (lv2 := [(0, .ref (ad 70))]) [0] rfl ?_
  refine g_iconst (v := (0 : Int32)) C dX8_layWeights_0 (by decide) ?_
  refine g_istore_n (lv' := fun y => [(1, .int y), (0, .ref (ad 70))]) C dX8_layWeights_1 rfl (by decide) (fun y => rfl) h ?_
  clear h; intro v21 h
  refine g_sub (lv2 := [(0, .ref (ad 70)), (1, .int v21)]) [1, 0] rfl ?_
  refine wlp_X8_layWeights_2 (N := N) C hr hlk hL ?_ _ _ _ h
  · intro s24 h
    refine g_aload_n C dX8_layWeights_21 rfl 0 rfl ?_
    refine g_iconst (v := (0 : Int32)) C dX8_layWeights_22 (by decide) ?_
    replace h := bd_some h
    obtain ⟨r25, s26, h1, h⟩ := h
    refine g_cV (As := [.int (0 : Int32)]) (rest := []) (stk2 := [.int r25]) C mf_X8_layLine ok8 rfl lk_X8_111 in_X8_layLine se_X8_layLine dX8_layWeights_23 (hL 70 rfl) rfl rfl rfl rfl ⟨Nat.le_of_ble_eq_true rfl, Nat.le_of_ble_eq_true rfl⟩ (Nat.le_of_ble_eq_true rfl) ⟨Nat.le_refl 0, Nat.le_refl 0⟩ (ct_X8_layLine hL h1) ?_
    refine g_istore_n (lv' := fun y => [(1, .int y), (0, .ref (ad 70))]) C dX8_layWeights_26 rfl (by decide) (fun y => rfl) h ?_
    clear h; intro v27 h
    refine g_iconst (v := (1 : Int32)) C dX8_layWeights_27 (by decide) ?_
    refine g_istore_n (lv' := fun y => [(2, .int y), (1, .int v27), (0, .ref (ad 70))]) C dX8_layWeights_28 rfl (by decide) (fun y => rfl) h ?_
    clear h; intro v28 h
    refine g_sub (lv2 := [(0, .ref (ad 70)), (1, .int v27), (2, .int v28)]) [2, 1, 0] rfl ?_
    refine wlp_X8_layWeights_29 (N := N) C hr hlk hL  _ _ _ h
-- X8_weight
def F_X8_weight (N : Nat) (v1 : Int32) (v2 : Int32) (st : St) : Option (Int32 × St) :=
  bs (F_X8_isVariable v1) (fun (r21 : Int32) => (if r21 = 0 then some ((-1 : Int32), st) else bs (F_X8_isVariable v2) (fun (r22 : Int32) => (if r22 = 0 then some ((-1 : Int32), st) else bs (F_X8_layWeights N st) (fun (s23 : St) => ck (inb (((7 : Int32) * v1) + v2) 49) (some ((s23 88 (((7 : Int32) * v1) + v2).toNatClampNeg), s23)))))))
set_option maxHeartbeats 4000000 in
set_option maxRecDepth 100000 in
theorem ct_X8_weight {N : Nat} (hL : ∀ k, prF k = true → k ∈ L) {v1 : Int32} {v2 : Int32} {st st' : St} {r' : Int32} (h : F_X8_weight N v1 v2 st = some (r', st')) : Ct l D cy ad A L yX8_weight cX8_weight 3 (some .int) 4 [.ref (ad 70), .int v1, .int v2] st (some (.int r')) st' := by
  unfold F_X8_weight at h
  refine ct_of (own := RX8) (by decide) rfl (Nat.le_of_ble_eq_true rfl) ?_
  intro p e s m args below meth c C hr hlk
  refine g_sub (lv2 := [(0, .ref (ad 70)), (1, .int v1), (2, .int v2)]) [0, 1, 2] rfl ?_
  refine g_iload_n C dX8_weight_0 rfl 1 rfl ?_
  replace h := bs_some h
  obtain ⟨r21, h1, h⟩ := h
  refine g_cS (As := [.int v1]) (rest := []) (stk2 := [.int r21]) C mf_X8_isVariable lk_X8_91 sm_X8_isVariable dX8_weight_1 rfl rfl rfl ⟨Nat.le_of_ble_eq_true rfl, Nat.le_of_ble_eq_true rfl⟩ (Nat.le_of_ble_eq_true rfl) ⟨Nat.le_refl 0, Nat.le_refl 0⟩ (ct_X8_isVariable hL h1) ?_
  refine g_if_eq (tgt := 14) C dX8_weight_4 (by decide) h ?_ ?_
  · clear h; intro hc4 h
    refine g_iconst (v := (-1 : Int32)) C dX8_weight_14 (by decide) ?_
    exact g_iret C hr hlk dX8_weight_15 h
  · clear h; intro hc4 h
    refine g_iload_n C dX8_weight_7 rfl 2 rfl ?_
    replace h := bs_some h
    obtain ⟨r22, h1, h⟩ := h
    refine g_cS (As := [.int v2]) (rest := []) (stk2 := [.int r22]) C mf_X8_isVariable lk_X8_91 sm_X8_isVariable dX8_weight_8 rfl rfl rfl ⟨Nat.le_of_ble_eq_true rfl, Nat.le_of_ble_eq_true rfl⟩ (Nat.le_of_ble_eq_true rfl) ⟨Nat.le_refl 0, Nat.le_refl 0⟩ (ct_X8_isVariable hL h1) ?_
    refine g_if_ne (tgt := 16) C dX8_weight_11 (by decide) h ?_ ?_
    · clear h; intro hc11 h
      refine g_aload_n C dX8_weight_16 rfl 0 rfl ?_
      replace h := bs_some h
      obtain ⟨s23, h1, h⟩ := h
      refine g_cV (As := []) (rest := []) (stk2 := []) C mf_X8_layWeights ok8 rfl lk_X8_181 in_X8_layWeights se_X8_layWeights dX8_weight_17 (hL 70 rfl) rfl rfl rfl rfl ⟨Nat.le_of_ble_eq_true rfl, Nat.le_of_ble_eq_true rfl⟩ (Nat.le_of_ble_eq_true rfl) ⟨Nat.le_refl 0, Nat.le_refl 0⟩ (ct_X8_layWeights hL h1) ?_
      refine g_aload_n C dX8_weight_20 rfl 0 rfl ?_
      refine g_getR (k2 := 88) C ok8 dX8_weight_21 (hL 70 rfl) rfl 21 (by decide) lk_X8_62 rfl rfl ?_
      refine g_bipush (v := (7 : Int32)) C dX8_weight_24 (by decide) ?_
      refine g_iload_n C dX8_weight_26 rfl 1 rfl ?_
      refine g_imul C dX8_weight_27 ?_
      refine g_iload_n C dX8_weight_28 rfl 2 rfl ?_
      refine g_iadd C dX8_weight_29 ?_
      refine g_iald C dX8_weight_30 (hL 88 rfl) rfl rfl h ?_
      clear h; intro h
      exact g_iret C hr hlk dX8_weight_31 h
    · clear h; intro hc11 h
      refine g_iconst (v := (-1 : Int32)) C dX8_weight_14 (by decide) ?_
      exact g_iret C hr hlk dX8_weight_15 h
-- X8_heaviest
def lpB_X8_heaviest_5 (st : St) (self : Int32 → Int32 → Option (Int32)) (v1 : Int32) (v2 : Int32) : Option (Int32) :=
  (if (49 : Int32) ≤ v2 then some v1 else ck (decide ((7 : Int32) ≠ 0)) (ck (decide ((7 : Int32) ≠ 0)) (lt (fun (x23 : Int32) => lt x23 (fun (v25 : Int32) => lt (lt v1 (fun (v27 : Int32) => lt (v2 + (1 : Int32)) (fun (v28 : Int32) => self v27 v28))) (fun (j26 : Option (Int32)) => (if v25 = 0 then j26 else (if v1 < 0 then lt v2 (fun (v29 : Int32) => lt (v2 + (1 : Int32)) (fun (v30 : Int32) => self v29 v30)) else ck (inb v2 49) (ck (inb v1 49) ((if (st 88 v2.toNatClampNeg) ≤ (st 88 v1.toNatClampNeg) then j26 else lt v2 (fun (v31 : Int32) => lt (v2 + (1 : Int32)) (fun (v32 : Int32) => self v31 v32)))))))))) (fun (j24 : Int32 → Option (Int32)) => lt (j24 (0 : Int32)) (fun (j33 : Option (Int32)) => (if (v2 - v2 / (7 : Int32) * (7 : Int32)) ≤ (v2 / (7 : Int32)) then j33 else ck (inb v2 49) ((if (st 90 v2.toNatClampNeg) = 0 then ck (inb v2 49) ((if (st 88 v2.toNatClampNeg) ≤ 0 then j33 else j24 (1 : Int32))) else j33))))))))
def lp_X8_heaviest_5 (st : St) : Nat → Int32 → Int32 → Option (Int32) := itf (lpB_X8_heaviest_5 st) (fun _ _ => none)
def F_X8_heaviest (N : Nat) (st : St) : Option (Int32) :=
  lt (-6 : Int32) (fun (v21 : Int32) => lt (0 : Int32) (fun (v22 : Int32) => lp_X8_heaviest_5 st  N v21 v22))
set_option maxHeartbeats 4000000 in
set_option maxRecDepth 100000 in
theorem wlp_X8_heaviest_5 (C : Cx p s m args c cX8_heaviest RX8 4 D cy ad A L) (hr : meth.sig.returnType = (some .int)) (hlk : meth.locks = false) (hL : ∀ k, prF k = true → k ∈ L) {N : Nat} {r' : Int32}  {st : St} : ∀ (n : Nat) (v1 : Int32) (v2 : Int32), lp_X8_heaviest_5 st n v1 v2 = some r' → Gm p l e (rmD 1) s m args below meth c D cy ad A L 4 0 0 (MQ below (QG D cy ad A L (some (.int r')) st) args s 0 0 A) 5 [(0, .ref (ad 70)), (1, .int v1), (2, .int v2)] [] st := by
  intro n
  induction n with
  | zero => intro v1 v2 h; cases h
  | succ n ih =>
    intro v1 v2 h
    change lpB_X8_heaviest_5 st (lp_X8_heaviest_5 st n) v1 v2 = some _ at h
    unfold lpB_X8_heaviest_5 at h
    refine g_iload_n C dX8_heaviest_5 rfl 2 rfl ?_
    refine g_bipush (v := (49 : Int32)) C dX8_heaviest_6 (by decide) ?_
    refine g_icmp_ge (tgt := 81) C dX8_heaviest_8 (by decide) h ?_ ?_
    · clear h; intro hc8 h
      refine g_iload_n C dX8_heaviest_81 rfl 1 rfl ?_
      exact g_iretP C hr hlk dX8_heaviest_82 h
    · clear h; intro hc8 h
      refine g_iload_n C dX8_heaviest_11 rfl 2 rfl ?_
      refine g_bipush (v := (7 : Int32)) C dX8_heaviest_12 (by decide) ?_
      refine g_idiv C dX8_heaviest_14 h ?_
      clear h; intro h
      refine g_iload_n C dX8_heaviest_15 rfl 2 rfl ?_
      refine g_bipush (v := (7 : Int32)) C dX8_heaviest_16 (by decide) ?_
      refine g_irem C dX8_heaviest_18 h ?_
      clear h; intro h
      replace h := lt_ex h
      obtain ⟨j24, ej24, h⟩ := h
      have hj24 : ∀ (x23 : Int32), j24 x23 = some r' → Gm p l e (rmD 1) s m args below meth c D cy ad A L 4 0 0 (MQ below (QG D cy ad A L (some (.int r')) st) args s 0 0 A) 45 [(0, .ref (ad 70)), (1, .int v1), (2, .int v2)] [.int x23] st := by
        intro x23 h
        rw [ej24] at h
        dsimp only at h
        refine g_istore_n (lv' := fun y => [(3, .int y), (0, .ref (ad 70)), (1, .int v1), (2, .int v2)]) C dX8_heaviest_45 rfl (by decide) (fun y => rfl) h ?_
        clear h; intro v25 h
        refine g_iload_n C dX8_heaviest_46 rfl 0 rfl ?_
        replace h := lt_ex h
        obtain ⟨j26, ej26, h⟩ := h
        have hj26 : j26 = some r' → Gm p l e (rmD 1) s m args below meth c D cy ad A L 4 0 0 (MQ below (QG D cy ad A L (some (.int r')) st) args s 0 0 A) 73 [(0, .ref (ad 70)), (1, .int v1), (2, .int v2)] [] st := by
          intro h
          rw [ej26] at h
          skip
          refine g_iload_n C dX8_heaviest_73 rfl 1 rfl ?_
          refine g_istore_n (lv' := fun y => [(1, .int y), (0, .ref (ad 70)), (2, .int v2)]) C dX8_heaviest_74 rfl (by decide) (fun y => rfl) h ?_
          clear h; intro v27 h
          refine g_iinc (lv' := fun y => [(2, .int y), (1, .int v27), (0, .ref (ad 70))]) C dX8_heaviest_75 2 rfl rfl (by decide) (fun y => rfl) h ?_
          clear h; intro v28 h
          refine g_goto (tgt := 5) C dX8_heaviest_78 (by decide) ?_
          refine g_sub (lv2 := [(0, .ref (ad 70)), (1, .int v27), (2, .int v28)]) [2, 1, 0] rfl ?_
          exact ih _ _ h
        refine g_if_eq (tgt := 73) C dX8_heaviest_47 (by decide) h ?_ ?_
        · clear h; intro hc47 h
          refine g_sub (lv2 := [(0, .ref (ad 70)), (1, .int v1), (2, .int v2)]) [1, 2, 3] rfl ?_
          exact hj26  h
        · clear h; intro hc47 h
          refine g_iload_n C dX8_heaviest_50 rfl 2 rfl ?_
          refine g_if_lt (tgt := 69) C dX8_heaviest_51 (by decide) h ?_ ?_
          · clear h; intro hc51 h
            refine g_iload_n C dX8_heaviest_69 rfl 3 rfl ?_
            refine g_goto (tgt := 74) C dX8_heaviest_70 (by decide) ?_
            refine g_istore_n (lv' := fun y => [(1, .int y), (3, .int v25), (0, .ref (ad 70)), (2, .int v2)]) C dX8_heaviest_74 rfl (by decide) (fun y => rfl) h ?_
            clear h; intro v29 h
            refine g_iinc (lv' := fun y => [(2, .int y), (1, .int v29), (3, .int v25), (0, .ref (ad 70))]) C dX8_heaviest_75 3 rfl rfl (by decide) (fun y => rfl) h ?_
            clear h; intro v30 h
            refine g_goto (tgt := 5) C dX8_heaviest_78 (by decide) ?_
            refine g_sub (lv2 := [(0, .ref (ad 70)), (1, .int v29), (2, .int v30)]) [3, 1, 0] rfl ?_
            exact ih _ _ h
          · clear h; intro hc51 h
            refine g_aload_n C dX8_heaviest_54 rfl 1 rfl ?_
            refine g_getR (k2 := 88) C ok8 dX8_heaviest_55 (hL 70 rfl) rfl 21 (by decide) lk_X8_62 rfl rfl ?_
            refine g_iload_n C dX8_heaviest_58 rfl 3 rfl ?_
            refine g_iald C dX8_heaviest_59 (hL 88 rfl) rfl rfl h ?_
            clear h; intro h
            refine g_aload_n C dX8_heaviest_60 rfl 1 rfl ?_
            refine g_getR (k2 := 88) C ok8 dX8_heaviest_61 (hL 70 rfl) rfl 21 (by decide) lk_X8_62 rfl rfl ?_
            refine g_iload_n C dX8_heaviest_64 rfl 2 rfl ?_
            refine g_iald C dX8_heaviest_65 (hL 88 rfl) rfl rfl h ?_
            clear h; intro h
            refine g_icmp_le (tgt := 73) C dX8_heaviest_66 (by decide) h ?_ ?_
            · clear h; intro hc66 h
              refine g_sub (lv2 := [(0, .ref (ad 70)), (1, .int v1), (2, .int v2)]) [1, 2, 3] rfl ?_
              exact hj26  h
            · clear h; intro hc66 h
              refine g_iload_n C dX8_heaviest_69 rfl 3 rfl ?_
              refine g_goto (tgt := 74) C dX8_heaviest_70 (by decide) ?_
              refine g_istore_n (lv' := fun y => [(1, .int y), (3, .int v25), (0, .ref (ad 70)), (2, .int v2)]) C dX8_heaviest_74 rfl (by decide) (fun y => rfl) h ?_
              clear h; intro v31 h
              refine g_iinc (lv' := fun y => [(2, .int y), (1, .int v31), (3, .int v25), (0, .ref (ad 70))]) C dX8_heaviest_75 3 rfl rfl (by decide) (fun y => rfl) h ?_
              clear h; intro v32 h
              refine g_goto (tgt := 5) C dX8_heaviest_78 (by decide) ?_
              refine g_sub (lv2 := [(0, .ref (ad 70)), (1, .int v31), (2, .int v32)]) [3, 1, 0] rfl ?_
              exact ih _ _ h
      replace h := lt_ex h
      obtain ⟨j33, ej33, h⟩ := h
      have hj33 : j33 = some r' → Gm p l e (rmD 1) s m args below meth c D cy ad A L 4 0 0 (MQ below (QG D cy ad A L (some (.int r')) st) args s 0 0 A) 44 [(0, .ref (ad 70)), (1, .int v1), (2, .int v2)] [] st := by
        intro h
        rw [ej33] at h
        skip
        refine g_iconst (v := (0 : Int32)) C dX8_heaviest_44 (by decide) ?_
        refine g_sub (lv2 := [(0, .ref (ad 70)), (1, .int v1), (2, .int v2)]) [0, 1, 2] rfl ?_
        exact hj24 _ h
      refine g_icmp_ge (tgt := 44) C dX8_heaviest_19 (by decide) h ?_ ?_
      · clear h; intro hc19 h
        refine g_sub (lv2 := [(0, .ref (ad 70)), (1, .int v1), (2, .int v2)]) [0, 1, 2] rfl ?_
        exact hj33  h
      · clear h; intro hc19 h
        refine g_aload_n C dX8_heaviest_22 rfl 0 rfl ?_
        refine g_getR (k2 := 90) C ok8 dX8_heaviest_23 (hL 70 rfl) rfl 23 (by decide) lk_X8_68 rfl rfl ?_
        refine g_iload_n C dX8_heaviest_26 rfl 2 rfl ?_
        refine g_zald C dX8_heaviest_27 (hL 90 rfl) rfl rfl h ?_
        clear h; intro h
        refine g_if_ne (tgt := 44) C dX8_heaviest_28 (by decide) h ?_ ?_
        · clear h; intro hc28 h
          refine g_sub (lv2 := [(0, .ref (ad 70)), (1, .int v1), (2, .int v2)]) [0, 1, 2] rfl ?_
          exact hj33  h
        · clear h; intro hc28 h
          refine g_aload_n C dX8_heaviest_31 rfl 0 rfl ?_
          refine g_getR (k2 := 88) C ok8 dX8_heaviest_32 (hL 70 rfl) rfl 21 (by decide) lk_X8_62 rfl rfl ?_
          refine g_iload_n C dX8_heaviest_35 rfl 2 rfl ?_
          refine g_iald C dX8_heaviest_36 (hL 88 rfl) rfl rfl h ?_
          clear h; intro h
          refine g_if_le (tgt := 44) C dX8_heaviest_37 (by decide) h ?_ ?_
          · clear h; intro hc37 h
            refine g_sub (lv2 := [(0, .ref (ad 70)), (1, .int v1), (2, .int v2)]) [0, 1, 2] rfl ?_
            exact hj33  h
          · clear h; intro hc37 h
            refine g_iconst (v := (1 : Int32)) C dX8_heaviest_40 (by decide) ?_
            refine g_goto (tgt := 45) C dX8_heaviest_41 (by decide) ?_
            refine g_sub (lv2 := [(0, .ref (ad 70)), (1, .int v1), (2, .int v2)]) [0, 1, 2] rfl ?_
            exact hj24 _ h
set_option maxHeartbeats 4000000 in
set_option maxRecDepth 100000 in
theorem ct_X8_heaviest {N : Nat} (hL : ∀ k, prF k = true → k ∈ L) {st : St} {r' : Int32} (h : F_X8_heaviest N st = some r') : Ct l D cy ad A L yX8_heaviest cX8_heaviest 4 (some .int) 1 [.ref (ad 70)] st (some (.int r')) st := by
  unfold F_X8_heaviest at h
  refine ct_of (own := RX8) (by decide) rfl (Nat.le_of_ble_eq_true rfl) ?_
  intro p e s m args below meth c C hr hlk
  refine g_sub (lv2 := [(0, .ref (ad 70))]) [0] rfl ?_
  refine g_bipush (v := (-6 : Int32)) C dX8_heaviest_0 (by decide) ?_
  refine g_istore_n (lv' := fun y => [(1, .int y), (0, .ref (ad 70))]) C dX8_heaviest_2 rfl (by decide) (fun y => rfl) h ?_
  clear h; intro v21 h
  refine g_iconst (v := (0 : Int32)) C dX8_heaviest_3 (by decide) ?_
  refine g_istore_n (lv' := fun y => [(2, .int y), (1, .int v21), (0, .ref (ad 70))]) C dX8_heaviest_4 rfl (by decide) (fun y => rfl) h ?_
  clear h; intro v22 h
  refine g_sub (lv2 := [(0, .ref (ad 70)), (1, .int v21), (2, .int v22)]) [2, 1, 0] rfl ?_
  refine wlp_X8_heaviest_5 (N := N) C hr hlk hL  _ _ _ h
-- X8_layTaken
def lpB_X8_layTaken_11 (K37 : St → Option (St)) (self : Int32 → St → Option (St)) (v1 : Int32) (st : St) : Option (St) :=
  (if (49 : Int32) ≤ v1 then K37 st else ck (inb v1 49) (lt (up st 89 v1.toNatClampNeg (vp_nar .boolean (0 : Int32))) (fun (s24 : St) => ck (inb v1 49) (lt (up s24 90 v1.toNatClampNeg (vp_nar .boolean (0 : Int32))) (fun (s25 : St) => lt (v1 + (1 : Int32)) (fun (v26 : Int32) => self v26 s25))))))
def lp_X8_layTaken_11 (K37 : St → Option (St)) : Nat → Int32 → St → Option (St) := itf (lpB_X8_layTaken_11 K37) (fun _ _ => none)
def lpB_X8_layTaken_39 (K65 : St → Option (St)) (self : Int32 → St → Option (St)) (v1 : Int32) (st : St) : Option (St) :=
  (if (7 : Int32) ≤ v1 then K65 st else ck (inb v1 7) (lt (up st 91 v1.toNatClampNeg (0 : Int32)) (fun (s29 : St) => ck (inb v1 7) (lt (up s29 92 v1.toNatClampNeg v1) (fun (s30 : St) => lt (v1 + (1 : Int32)) (fun (v31 : Int32) => self v31 s30))))))
def lp_X8_layTaken_39 (K65 : St → Option (St)) : Nat → Int32 → St → Option (St) := itf (lpB_X8_layTaken_39 K65) (fun _ _ => none)
def lpB_X8_layTaken_174 (v2 : Int32) (v4 : Int32) (K222 : St → Option (St)) (self : Int32 → St → Option (St)) (v5 : Int32) (st : St) : Option (St) :=
  (if (7 : Int32) ≤ v5 then K222 st else ck (inb v5 7) ((if (st 92 v5.toNatClampNeg) = v4 then ck (inb v2 7) (ck (inb v5 7) (lt (up st 92 v5.toNatClampNeg (st 92 v2.toNatClampNeg)) (fun (s50 : St) => lt (v5 + (1 : Int32)) (fun (v51 : Int32) => self v51 s50)))) else ck (inb v5 7) (ck (inb v5 7) (lt (up st 92 v5.toNatClampNeg (st 92 v5.toNatClampNeg)) (fun (s48 : St) => lt (v5 + (1 : Int32)) (fun (v49 : Int32) => self v49 s48)))))))
def lp_X8_layTaken_174 (v2 : Int32) (v4 : Int32) (K222 : St → Option (St)) : Nat → Int32 → St → Option (St) := itf (lpB_X8_layTaken_174 v2 v4 K222) (fun _ _ => none)
def lpB_X8_layTaken_70 (N : Nat) (self : Int32 → St → Option (St)) (v1 : Int32) (st : St) : Option (St) :=
  (if v1 < 0 then some st else ck (inb v1 49) (lt (up st 90 v1.toNatClampNeg (vp_nar .boolean (1 : Int32))) (fun (s35 : St) => ck (decide ((7 : Int32) ≠ 0)) (lt (v1 / (7 : Int32)) (fun (v36 : Int32) => ck (decide ((7 : Int32) ≠ 0)) (lt (v1 - v1 / (7 : Int32) * (7 : Int32)) (fun (v37 : Int32) => ck (inb v36 7) (lt (fun (s38 : St) => bs (F_X8_heaviest N s38) (fun (r40 : Int32) => lt r40 (fun (v41 : Int32) => self v41 s38))) (fun (j39 : St → Option (St)) => (if (2 : Int32) ≤ (s35 91 v36.toNatClampNeg) then j39 s35 else ck (inb v37 7) ((if (2 : Int32) ≤ (s35 91 v37.toNatClampNeg) then j39 s35 else ck (inb v36 7) (ck (inb v37 7) ((if (s35 92 v36.toNatClampNeg) = (s35 92 v37.toNatClampNeg) then j39 s35 else ck (inb v1 49) (lt (up s35 89 v1.toNatClampNeg (vp_nar .boolean (1 : Int32))) (fun (s42 : St) => lt (up s42 70 26 ((s42 70 26) + (1 : Int32))) (fun (s43 : St) => ck (inb v36 7) (ck (inb v36 7) (lt (up s43 91 v36.toNatClampNeg ((s43 91 v36.toNatClampNeg) + (1 : Int32))) (fun (s44 : St) => ck (inb v37 7) (ck (inb v37 7) (lt (up s44 91 v37.toNatClampNeg ((s44 91 v37.toNatClampNeg) + (1 : Int32))) (fun (s45 : St) => ck (inb v37 7) (lt (s45 92 v37.toNatClampNeg) (fun (v46 : Int32) => lt (0 : Int32) (fun (v47 : Int32) => lp_X8_layTaken_174 v36 v46 (fun (s52 : St) => j39 s52) N v47 s45)))))))))))))))))))))))))))
def lp_X8_layTaken_70 (N : Nat) : Nat → Int32 → St → Option (St) := itf (lpB_X8_layTaken_70 N) (fun _ _ => none)
def F_X8_layTaken (N : Nat) (st : St) : Option (St) :=
  bs (F_X8_layWeights N st) (fun (s21 : St) => lt (up s21 70 26 (0 : Int32)) (fun (s22 : St) => lt (0 : Int32) (fun (v23 : Int32) => lp_X8_layTaken_11 (fun (s27 : St) => lt (0 : Int32) (fun (v28 : Int32) => lp_X8_layTaken_39 (fun (s32 : St) => bs (F_X8_heaviest N s32) (fun (r33 : Int32) => lt r33 (fun (v34 : Int32) => lp_X8_layTaken_70 N  N v34 s32))) N v28 s27)) N v23 s22)))
set_option maxHeartbeats 4000000 in
set_option maxRecDepth 100000 in
theorem wlp_X8_layTaken_11 (C : Cx p s m args c cX8_layTaken RX8 6 D cy ad A L) (hr : meth.sig.returnType = none) (hlk : meth.locks = false) (hL : ∀ k, prF k = true → k ∈ L) {N : Nat} {st' : St} {K37 : St → Option (St)} (hK37 : ∀  (st : St), K37 st = some st' → Gm p l e (rmD 4) s m args below meth c D cy ad A L 6 0 0 (MQ below (QG D cy ad A L none st') args s 0 0 A) 37 [(0, .ref (ad 70))] [] st) : ∀ (n : Nat) (v1 : Int32) (st : St), lp_X8_layTaken_11 K37 n v1 st = some st' → Gm p l e (rmD 4) s m args below meth c D cy ad A L 6 0 0 (MQ below (QG D cy ad A L none st') args s 0 0 A) 11 [(0, .ref (ad 70)), (1, .int v1)] [] st := by
  intro n
  induction n with
  | zero => intro v1 st h; cases h
  | succ n ih =>
    intro v1 st h
    change lpB_X8_layTaken_11 K37 (lp_X8_layTaken_11 K37 n) v1 st = some _ at h
    unfold lpB_X8_layTaken_11 at h
    refine g_iload_n C dX8_layTaken_11 rfl 1 rfl ?_
    refine g_bipush (v := (49 : Int32)) C dX8_layTaken_12 (by decide) ?_
    refine g_icmp_ge (tgt := 37) C dX8_layTaken_14 (by decide) h ?_ ?_
    · clear h; intro hc14 h
      refine g_sub (lv2 := [(0, .ref (ad 70))]) [0] rfl ?_
      exact hK37 _ h
    · clear h; intro hc14 h
      refine g_aload_n C dX8_layTaken_17 rfl 0 rfl ?_
      refine g_getR (k2 := 89) C ok8 dX8_layTaken_18 (hL 70 rfl) rfl 22 (by decide) lk_X8_65 rfl rfl ?_
      refine g_iload_n C dX8_layTaken_21 rfl 1 rfl ?_
      refine g_iconst (v := (0 : Int32)) C dX8_layTaken_22 (by decide) ?_
      refine g_zast C dX8_layTaken_23 (hL 89 rfl) rfl rfl h ?_
      clear h; intro s24 h
      refine g_aload_n C dX8_layTaken_24 rfl 0 rfl ?_
      refine g_getR (k2 := 90) C ok8 dX8_layTaken_25 (hL 70 rfl) rfl 23 (by decide) lk_X8_68 rfl rfl ?_
      refine g_iload_n C dX8_layTaken_28 rfl 1 rfl ?_
      refine g_iconst (v := (0 : Int32)) C dX8_layTaken_29 (by decide) ?_
      refine g_zast C dX8_layTaken_30 (hL 90 rfl) rfl rfl h ?_
      clear h; intro s25 h
      refine g_iinc (lv' := fun y => [(1, .int y), (0, .ref (ad 70))]) C dX8_layTaken_31 1 rfl rfl (by decide) (fun y => rfl) h ?_
      clear h; intro v26 h
      refine g_goto (tgt := 11) C dX8_layTaken_34 (by decide) ?_
      refine g_sub (lv2 := [(0, .ref (ad 70)), (1, .int v26)]) [1, 0] rfl ?_
      exact ih _ _ h
set_option maxHeartbeats 4000000 in
set_option maxRecDepth 100000 in
theorem wlp_X8_layTaken_39 (C : Cx p s m args c cX8_layTaken RX8 6 D cy ad A L) (hr : meth.sig.returnType = none) (hlk : meth.locks = false) (hL : ∀ k, prF k = true → k ∈ L) {N : Nat} {st' : St} {K65 : St → Option (St)} (hK65 : ∀  (st : St), K65 st = some st' → Gm p l e (rmD 4) s m args below meth c D cy ad A L 6 0 0 (MQ below (QG D cy ad A L none st') args s 0 0 A) 65 [(0, .ref (ad 70))] [] st) : ∀ (n : Nat) (v1 : Int32) (st : St), lp_X8_layTaken_39 K65 n v1 st = some st' → Gm p l e (rmD 4) s m args below meth c D cy ad A L 6 0 0 (MQ below (QG D cy ad A L none st') args s 0 0 A) 39 [(0, .ref (ad 70)), (1, .int v1)] [] st := by
  intro n
  induction n with
  | zero => intro v1 st h; cases h
  | succ n ih =>
    intro v1 st h
    change lpB_X8_layTaken_39 K65 (lp_X8_layTaken_39 K65 n) v1 st = some _ at h
    unfold lpB_X8_layTaken_39 at h
    refine g_iload_n C dX8_layTaken_39 rfl 1 rfl ?_
    refine g_bipush (v := (7 : Int32)) C dX8_layTaken_40 (by decide) ?_
    refine g_icmp_ge (tgt := 65) C dX8_layTaken_42 (by decide) h ?_ ?_
    · clear h; intro hc42 h
      refine g_sub (lv2 := [(0, .ref (ad 70))]) [0] rfl ?_
      exact hK65 _ h
    · clear h; intro hc42 h
      refine g_aload_n C dX8_layTaken_45 rfl 0 rfl ?_
      refine g_getR (k2 := 91) C ok8 dX8_layTaken_46 (hL 70 rfl) rfl 24 (by decide) lk_X8_71 rfl rfl ?_
      refine g_iload_n C dX8_layTaken_49 rfl 1 rfl ?_
      refine g_iconst (v := (0 : Int32)) C dX8_layTaken_50 (by decide) ?_
      refine g_iast C dX8_layTaken_51 (hL 91 rfl) rfl rfl h ?_
      clear h; intro s29 h
      refine g_aload_n C dX8_layTaken_52 rfl 0 rfl ?_
      refine g_getR (k2 := 92) C ok8 dX8_layTaken_53 (hL 70 rfl) rfl 25 (by decide) lk_X8_74 rfl rfl ?_
      refine g_iload_n C dX8_layTaken_56 rfl 1 rfl ?_
      refine g_iload_n C dX8_layTaken_57 rfl 1 rfl ?_
      refine g_iast C dX8_layTaken_58 (hL 92 rfl) rfl rfl h ?_
      clear h; intro s30 h
      refine g_iinc (lv' := fun y => [(1, .int y), (0, .ref (ad 70))]) C dX8_layTaken_59 1 rfl rfl (by decide) (fun y => rfl) h ?_
      clear h; intro v31 h
      refine g_goto (tgt := 39) C dX8_layTaken_62 (by decide) ?_
      refine g_sub (lv2 := [(0, .ref (ad 70)), (1, .int v31)]) [1, 0] rfl ?_
      exact ih _ _ h
set_option maxHeartbeats 4000000 in
set_option maxRecDepth 100000 in
theorem wlp_X8_layTaken_174 (C : Cx p s m args c cX8_layTaken RX8 6 D cy ad A L) (hr : meth.sig.returnType = none) (hlk : meth.locks = false) (hL : ∀ k, prF k = true → k ∈ L) {N : Nat} {v2 : Int32} {v4 : Int32} {st' : St} {K222 : St → Option (St)} (hK222 : ∀  (st : St), K222 st = some st' → Gm p l e (rmD 4) s m args below meth c D cy ad A L 6 0 0 (MQ below (QG D cy ad A L none st') args s 0 0 A) 222 [(0, .ref (ad 70))] [] st) : ∀ (n : Nat) (v5 : Int32) (st : St), lp_X8_layTaken_174 v2 v4 K222 n v5 st = some st' → Gm p l e (rmD 4) s m args below meth c D cy ad A L 6 0 0 (MQ below (QG D cy ad A L none st') args s 0 0 A) 174 [(0, .ref (ad 70)), (2, .int v2), (4, .int v4), (5, .int v5)] [] st := by
  intro n
  induction n with
  | zero => intro v5 st h; cases h
  | succ n ih =>
    intro v5 st h
    change lpB_X8_layTaken_174 v2 v4 K222 (lp_X8_layTaken_174 v2 v4 K222 n) v5 st = some _ at h
    unfold lpB_X8_layTaken_174 at h
    refine g_iload C dX8_layTaken_174 3 rfl ?_
    refine g_bipush (v := (7 : Int32)) C dX8_layTaken_176 (by decide) ?_
    refine g_icmp_ge (tgt := 222) C dX8_layTaken_178 (by decide) h ?_ ?_
    · clear h; intro hc178 h
      refine g_sub (lv2 := [(0, .ref (ad 70))]) [0] rfl ?_
      exact hK222 _ h
    · clear h; intro hc178 h
      refine g_aload_n C dX8_layTaken_181 rfl 0 rfl ?_
      refine g_getR (k2 := 92) C ok8 dX8_layTaken_182 (hL 70 rfl) rfl 25 (by decide) lk_X8_74 rfl rfl ?_
      refine g_iload C dX8_layTaken_185 3 rfl ?_
      refine g_aload_n C dX8_layTaken_187 rfl 0 rfl ?_
      refine g_getR (k2 := 92) C ok8 dX8_layTaken_188 (hL 70 rfl) rfl 25 (by decide) lk_X8_74 rfl rfl ?_
      refine g_iload C dX8_layTaken_191 3 rfl ?_
      refine g_iald C dX8_layTaken_193 (hL 92 rfl) rfl rfl h ?_
      clear h; intro h
      refine g_iload C dX8_layTaken_194 2 rfl ?_
      refine g_icmp_ne (tgt := 208) C dX8_layTaken_196 (by decide) h ?_ ?_
      · clear h; intro hc196 h
        refine g_aload_n C dX8_layTaken_208 rfl 0 rfl ?_
        refine g_getR (k2 := 92) C ok8 dX8_layTaken_209 (hL 70 rfl) rfl 25 (by decide) lk_X8_74 rfl rfl ?_
        refine g_iload C dX8_layTaken_212 3 rfl ?_
        refine g_iald C dX8_layTaken_214 (hL 92 rfl) rfl rfl h ?_
        clear h; intro h
        refine g_iast C dX8_layTaken_215 (hL 92 rfl) rfl rfl h ?_
        clear h; intro s48 h
        refine g_iinc (lv' := fun y => [(5, .int y), (0, .ref (ad 70)), (2, .int v2), (4, .int v4)]) C dX8_layTaken_216 3 rfl rfl (by decide) (fun y => rfl) h ?_
        clear h; intro v49 h
        refine g_goto (tgt := 174) C dX8_layTaken_219 (by decide) ?_
        refine g_sub (lv2 := [(0, .ref (ad 70)), (2, .int v2), (4, .int v4), (5, .int v49)]) [1, 2, 3, 0] rfl ?_
        exact ih _ _ h
      · clear h; intro hc196 h
        refine g_aload_n C dX8_layTaken_199 rfl 0 rfl ?_
        refine g_getR (k2 := 92) C ok8 dX8_layTaken_200 (hL 70 rfl) rfl 25 (by decide) lk_X8_74 rfl rfl ?_
        refine g_iload_n C dX8_layTaken_203 rfl 1 rfl ?_
        refine g_iald C dX8_layTaken_204 (hL 92 rfl) rfl rfl h ?_
        clear h; intro h
        refine g_goto (tgt := 215) C dX8_layTaken_205 (by decide) ?_
        refine g_iast C dX8_layTaken_215 (hL 92 rfl) rfl rfl h ?_
        clear h; intro s50 h
        refine g_iinc (lv' := fun y => [(5, .int y), (0, .ref (ad 70)), (2, .int v2), (4, .int v4)]) C dX8_layTaken_216 3 rfl rfl (by decide) (fun y => rfl) h ?_
        clear h; intro v51 h
        refine g_goto (tgt := 174) C dX8_layTaken_219 (by decide) ?_
        refine g_sub (lv2 := [(0, .ref (ad 70)), (2, .int v2), (4, .int v4), (5, .int v51)]) [1, 2, 3, 0] rfl ?_
        exact ih _ _ h
set_option maxHeartbeats 4000000 in
set_option maxRecDepth 100000 in
theorem wlp_X8_layTaken_70 (C : Cx p s m args c cX8_layTaken RX8 6 D cy ad A L) (hr : meth.sig.returnType = none) (hlk : meth.locks = false) (hL : ∀ k, prF k = true → k ∈ L) {N : Nat} {st' : St} : ∀ (n : Nat) (v1 : Int32) (st : St), lp_X8_layTaken_70 N n v1 st = some st' → Gm p l e (rmD 4) s m args below meth c D cy ad A L 6 0 0 (MQ below (QG D cy ad A L none st') args s 0 0 A) 70 [(0, .ref (ad 70)), (1, .int v1)] [] st := by
  intro n
  induction n with
  | zero => intro v1 st h; cases h
  | succ n ih =>
    intro v1 st h
    change lpB_X8_layTaken_70 N (lp_X8_layTaken_70 N n) v1 st = some _ at h
    unfold lpB_X8_layTaken_70 at h
    refine g_iload_n C dX8_layTaken_70 rfl 1 rfl ?_
    refine g_if_lt (tgt := 230) C dX8_layTaken_71 (by decide) h ?_ ?_
    · clear h; intro hc71 h
      exact g_vret C hr hlk dX8_layTaken_230 h
    · clear h; intro hc71 h
      refine g_aload_n C dX8_layTaken_74 rfl 0 rfl ?_
      refine g_getR (k2 := 90) C ok8 dX8_layTaken_75 (hL 70 rfl) rfl 23 (by decide) lk_X8_68 rfl rfl ?_
      refine g_iload_n C dX8_layTaken_78 rfl 1 rfl ?_
      refine g_iconst (v := (1 : Int32)) C dX8_layTaken_79 (by decide) ?_
      refine g_zast C dX8_layTaken_80 (hL 90 rfl) rfl rfl h ?_
      clear h; intro s35 h
      refine g_iload_n C dX8_layTaken_81 rfl 1 rfl ?_
      refine g_bipush (v := (7 : Int32)) C dX8_layTaken_82 (by decide) ?_
      refine g_idiv C dX8_layTaken_84 h ?_
      clear h; intro h
      refine g_istore_n (lv' := fun y => [(2, .int y), (0, .ref (ad 70)), (1, .int v1)]) C dX8_layTaken_85 rfl (by decide) (fun y => rfl) h ?_
      clear h; intro v36 h
      refine g_iload_n C dX8_layTaken_86 rfl 2 rfl ?_
      refine g_bipush (v := (7 : Int32)) C dX8_layTaken_87 (by decide) ?_
      refine g_irem C dX8_layTaken_89 h ?_
      clear h; intro h
      refine g_istore_n (lv' := fun y => [(3, .int y), (2, .int v36), (0, .ref (ad 70)), (1, .int v1)]) C dX8_layTaken_90 rfl (by decide) (fun y => rfl) h ?_
      clear h; intro v37 h
      refine g_aload_n C dX8_layTaken_91 rfl 2 rfl ?_
      refine g_getR (k2 := 91) C ok8 dX8_layTaken_92 (hL 70 rfl) rfl 24 (by decide) lk_X8_71 rfl rfl ?_
      refine g_iload_n C dX8_layTaken_95 rfl 1 rfl ?_
      refine g_iald C dX8_layTaken_96 (hL 91 rfl) rfl rfl h ?_
      clear h; intro h
      refine g_iconst (v := (2 : Int32)) C dX8_layTaken_97 (by decide) ?_
      replace h := lt_ex h
      obtain ⟨j39, ej39, h⟩ := h
      have hj39 : ∀ (s38 : St), j39 s38 = some st' → Gm p l e (rmD 4) s m args below meth c D cy ad A L 6 0 0 (MQ below (QG D cy ad A L none st') args s 0 0 A) 222 [(0, .ref (ad 70))] [] s38 := by
        intro s38 h
        rw [ej39] at h
        dsimp only at h
        refine g_aload_n C dX8_layTaken_222 rfl 0 rfl ?_
        replace h := bs_some h
        obtain ⟨r40, h1, h⟩ := h
        refine g_cV (As := []) (rest := []) (stk2 := [.int r40]) C mf_X8_heaviest ok8 rfl lk_X8_187 in_X8_heaviest se_X8_heaviest dX8_layTaken_223 (hL 70 rfl) rfl rfl rfl rfl ⟨Nat.le_of_ble_eq_true rfl, Nat.le_of_ble_eq_true rfl⟩ (Nat.le_of_ble_eq_true rfl) ⟨Nat.le_refl 0, Nat.le_refl 0⟩ (ct_X8_heaviest hL h1) ?_
        refine g_istore_n (lv' := fun y => [(1, .int y), (0, .ref (ad 70))]) C dX8_layTaken_226 rfl (by decide) (fun y => rfl) h ?_
        clear h; intro v41 h
        refine g_goto (tgt := 70) C dX8_layTaken_227 (by decide) ?_
        refine g_sub (lv2 := [(0, .ref (ad 70)), (1, .int v41)]) [1, 0] rfl ?_
        exact ih _ _ h
      refine g_icmp_ge (tgt := 222) C dX8_layTaken_98 (by decide) h ?_ ?_
      · clear h; intro hc98 h
        refine g_sub (lv2 := [(0, .ref (ad 70))]) [2] rfl ?_
        exact hj39 _ h
      · clear h; intro hc98 h
        refine g_aload_n C dX8_layTaken_101 rfl 2 rfl ?_
        refine g_getR (k2 := 91) C ok8 dX8_layTaken_102 (hL 70 rfl) rfl 24 (by decide) lk_X8_71 rfl rfl ?_
        refine g_iload_n C dX8_layTaken_105 rfl 0 rfl ?_
        refine g_iald C dX8_layTaken_106 (hL 91 rfl) rfl rfl h ?_
        clear h; intro h
        refine g_iconst (v := (2 : Int32)) C dX8_layTaken_107 (by decide) ?_
        refine g_icmp_ge (tgt := 222) C dX8_layTaken_108 (by decide) h ?_ ?_
        · clear h; intro hc108 h
          refine g_sub (lv2 := [(0, .ref (ad 70))]) [2] rfl ?_
          exact hj39 _ h
        · clear h; intro hc108 h
          refine g_aload_n C dX8_layTaken_111 rfl 2 rfl ?_
          refine g_getR (k2 := 92) C ok8 dX8_layTaken_112 (hL 70 rfl) rfl 25 (by decide) lk_X8_74 rfl rfl ?_
          refine g_iload_n C dX8_layTaken_115 rfl 1 rfl ?_
          refine g_iald C dX8_layTaken_116 (hL 92 rfl) rfl rfl h ?_
          clear h; intro h
          refine g_aload_n C dX8_layTaken_117 rfl 2 rfl ?_
          refine g_getR (k2 := 92) C ok8 dX8_layTaken_118 (hL 70 rfl) rfl 25 (by decide) lk_X8_74 rfl rfl ?_
          refine g_iload_n C dX8_layTaken_121 rfl 0 rfl ?_
          refine g_iald C dX8_layTaken_122 (hL 92 rfl) rfl rfl h ?_
          clear h; intro h
          refine g_icmp_eq (tgt := 222) C dX8_layTaken_123 (by decide) h ?_ ?_
          · clear h; intro hc123 h
            refine g_sub (lv2 := [(0, .ref (ad 70))]) [2] rfl ?_
            exact hj39 _ h
          · clear h; intro hc123 h
            refine g_aload_n C dX8_layTaken_126 rfl 2 rfl ?_
            refine g_getR (k2 := 89) C ok8 dX8_layTaken_127 (hL 70 rfl) rfl 22 (by decide) lk_X8_65 rfl rfl ?_
            refine g_iload_n C dX8_layTaken_130 rfl 3 rfl ?_
            refine g_iconst (v := (1 : Int32)) C dX8_layTaken_131 (by decide) ?_
            refine g_zast C dX8_layTaken_132 (hL 89 rfl) rfl rfl h ?_
            clear h; intro s42 h
            refine g_aload_n C dX8_layTaken_133 rfl 2 rfl ?_
            refine g_dup C dX8_layTaken_134 rfl ?_
            refine g_getI C ok8 dX8_layTaken_135 (hL 70 rfl) rfl 26 (by decide) lk_X8_184 rfl ?_
            refine g_iconst (v := (1 : Int32)) C dX8_layTaken_138 (by decide) ?_
            refine g_iadd C dX8_layTaken_139 ?_
            refine g_put (ty := .int) C ok8 dX8_layTaken_140 (hL 70 rfl) rfl 26 (by decide) lk_X8_184 rfl (tyX8_ok 26 (by decide)) rfl rfl rfl h ?_
            clear h; intro s43 h
            refine g_aload_n C dX8_layTaken_143 rfl 2 rfl ?_
            refine g_getR (k2 := 91) C ok8 dX8_layTaken_144 (hL 70 rfl) rfl 24 (by decide) lk_X8_71 rfl rfl ?_
            refine g_iload_n C dX8_layTaken_147 rfl 1 rfl ?_
            refine g_dup2 C dX8_layTaken_148 rfl rfl ?_
            refine g_iald C dX8_layTaken_149 (hL 91 rfl) rfl rfl h ?_
            clear h; intro h
            refine g_iconst (v := (1 : Int32)) C dX8_layTaken_150 (by decide) ?_
            refine g_iadd C dX8_layTaken_151 ?_
            refine g_iast C dX8_layTaken_152 (hL 91 rfl) rfl rfl h ?_
            clear h; intro s44 h
            refine g_aload_n C dX8_layTaken_153 rfl 2 rfl ?_
            refine g_getR (k2 := 91) C ok8 dX8_layTaken_154 (hL 70 rfl) rfl 24 (by decide) lk_X8_71 rfl rfl ?_
            refine g_iload_n C dX8_layTaken_157 rfl 0 rfl ?_
            refine g_dup2 C dX8_layTaken_158 rfl rfl ?_
            refine g_iald C dX8_layTaken_159 (hL 91 rfl) rfl rfl h ?_
            clear h; intro h
            refine g_iconst (v := (1 : Int32)) C dX8_layTaken_160 (by decide) ?_
            refine g_iadd C dX8_layTaken_161 ?_
            refine g_iast C dX8_layTaken_162 (hL 91 rfl) rfl rfl h ?_
            clear h; intro s45 h
            refine g_aload_n C dX8_layTaken_163 rfl 2 rfl ?_
            refine g_getR (k2 := 92) C ok8 dX8_layTaken_164 (hL 70 rfl) rfl 25 (by decide) lk_X8_74 rfl rfl ?_
            refine g_iload_n C dX8_layTaken_167 rfl 0 rfl ?_
            refine g_iald C dX8_layTaken_168 (hL 92 rfl) rfl rfl h ?_
            clear h; intro h
            refine g_istore (lv' := fun y => [(4, .int y), (3, .int v37), (2, .int v36), (0, .ref (ad 70)), (1, .int v1)]) C dX8_layTaken_169 (by decide) (fun y => rfl) h ?_
            clear h; intro v46 h
            refine g_iconst (v := (0 : Int32)) C dX8_layTaken_171 (by decide) ?_
            refine g_istore (lv' := fun y => [(5, .int y), (4, .int v46), (3, .int v37), (2, .int v36), (0, .ref (ad 70)), (1, .int v1)]) C dX8_layTaken_172 (by decide) (fun y => rfl) h ?_
            clear h; intro v47 h
            refine g_sub (lv2 := [(0, .ref (ad 70)), (2, .int v36), (4, .int v46), (5, .int v47)]) [4, 3, 1, 0] rfl ?_
            refine wlp_X8_layTaken_174 (N := N) C hr hlk hL ?_ _ _ _ h
            · intro s52 h
              refine g_sub (lv2 := [(0, .ref (ad 70))]) [0] rfl ?_
              exact hj39 _ h
set_option maxHeartbeats 4000000 in
set_option maxRecDepth 100000 in
theorem ct_X8_layTaken {N : Nat} (hL : ∀ k, prF k = true → k ∈ L) {st st' : St} (h : F_X8_layTaken N st = some st') : Ct l D cy ad A L yX8_layTaken cX8_layTaken 6 none 4 [.ref (ad 70)] st none st' := by
  unfold F_X8_layTaken at h
  refine ct_of (own := RX8) (by decide) rfl (Nat.le_of_ble_eq_true rfl) ?_
  intro p e s m args below meth c C hr hlk
  refine g_sub (lv2 := [(0, .ref (ad 70))]) [0] rfl ?_
  refine g_aload_n C dX8_layTaken_0 rfl 0 rfl ?_
  replace h := bs_some h
  obtain ⟨s21, h1, h⟩ := h
  refine g_cV (As := []) (rest := []) (stk2 := []) C mf_X8_layWeights ok8 rfl lk_X8_181 in_X8_layWeights se_X8_layWeights dX8_layTaken_1 (hL 70 rfl) rfl rfl rfl rfl ⟨Nat.le_of_ble_eq_true rfl, Nat.le_of_ble_eq_true rfl⟩ (Nat.le_of_ble_eq_true rfl) ⟨Nat.le_refl 0, Nat.le_refl 0⟩ (ct_X8_layWeights hL h1) ?_
  refine g_aload_n C dX8_layTaken_4 rfl 0 rfl ?_
  refine g_iconst (v := (0 : Int32)) C dX8_layTaken_5 (by decide) ?_
  refine g_put (ty := .int) C ok8 dX8_layTaken_6 (hL 70 rfl) rfl 26 (by decide) lk_X8_184 rfl (tyX8_ok 26 (by decide)) rfl rfl rfl h ?_
  clear h; intro s22 h
  refine g_iconst (v := (0 : Int32)) C dX8_layTaken_9 (by decide) ?_
  refine g_istore_n (lv' := fun y => [(1, .int y), (0, .ref (ad 70))]) C dX8_layTaken_10 rfl (by decide) (fun y => rfl) h ?_
  clear h; intro v23 h
  refine g_sub (lv2 := [(0, .ref (ad 70)), (1, .int v23)]) [1, 0] rfl ?_
  refine wlp_X8_layTaken_11 (N := N) C hr hlk hL ?_ _ _ _ h
  · intro s27 h
    refine g_iconst (v := (0 : Int32)) C dX8_layTaken_37 (by decide) ?_
    refine g_istore_n (lv' := fun y => [(1, .int y), (0, .ref (ad 70))]) C dX8_layTaken_38 rfl (by decide) (fun y => rfl) h ?_
    clear h; intro v28 h
    refine g_sub (lv2 := [(0, .ref (ad 70)), (1, .int v28)]) [1, 0] rfl ?_
    refine wlp_X8_layTaken_39 (N := N) C hr hlk hL ?_ _ _ _ h
    · intro s32 h
      refine g_aload_n C dX8_layTaken_65 rfl 0 rfl ?_
      replace h := bs_some h
      obtain ⟨r33, h1, h⟩ := h
      refine g_cV (As := []) (rest := []) (stk2 := [.int r33]) C mf_X8_heaviest ok8 rfl lk_X8_187 in_X8_heaviest se_X8_heaviest dX8_layTaken_66 (hL 70 rfl) rfl rfl rfl rfl ⟨Nat.le_of_ble_eq_true rfl, Nat.le_of_ble_eq_true rfl⟩ (Nat.le_of_ble_eq_true rfl) ⟨Nat.le_refl 0, Nat.le_refl 0⟩ (ct_X8_heaviest hL h1) ?_
      refine g_istore_n (lv' := fun y => [(1, .int y), (0, .ref (ad 70))]) C dX8_layTaken_69 rfl (by decide) (fun y => rfl) h ?_
      clear h; intro v34 h
      refine g_sub (lv2 := [(0, .ref (ad 70)), (1, .int v34)]) [1, 0] rfl ?_
      refine wlp_X8_layTaken_70 (N := N) C hr hlk hL  _ _ _ h
-- X8_taken
def F_X8_taken (N : Nat) (v1 : Int32) (v2 : Int32) (st : St) : Option (Int32 × St) :=
  bs (F_X8_isVariable v1) (fun (r21 : Int32) => (if r21 = 0 then some ((-1 : Int32), st) else bs (F_X8_isVariable v2) (fun (r22 : Int32) => (if r22 = 0 then some ((-1 : Int32), st) else bs (F_X8_layTaken N st) (fun (s23 : St) => ck (inb (((7 : Int32) * v1) + v2) 49) ((if (s23 89 (((7 : Int32) * v1) + v2).toNatClampNeg) = 0 then ck (inb (((7 : Int32) * v2) + v1) 49) ((if (s23 89 (((7 : Int32) * v2) + v1).toNatClampNeg) = 0 then some ((0 : Int32), s23) else some ((1 : Int32), s23))) else some ((1 : Int32), s23))))))))
set_option maxHeartbeats 4000000 in
set_option maxRecDepth 100000 in
theorem ct_X8_taken {N : Nat} (hL : ∀ k, prF k = true → k ∈ L) {v1 : Int32} {v2 : Int32} {st st' : St} {r' : Int32} (h : F_X8_taken N v1 v2 st = some (r', st')) : Ct l D cy ad A L yX8_taken cX8_taken 3 (some .int) 5 [.ref (ad 70), .int v1, .int v2] st (some (.int r')) st' := by
  unfold F_X8_taken at h
  refine ct_of (own := RX8) (by decide) rfl (Nat.le_of_ble_eq_true rfl) ?_
  intro p e s m args below meth c C hr hlk
  refine g_sub (lv2 := [(0, .ref (ad 70)), (1, .int v1), (2, .int v2)]) [0, 1, 2] rfl ?_
  refine g_iload_n C dX8_taken_0 rfl 1 rfl ?_
  replace h := bs_some h
  obtain ⟨r21, h1, h⟩ := h
  refine g_cS (As := [.int v1]) (rest := []) (stk2 := [.int r21]) C mf_X8_isVariable lk_X8_91 sm_X8_isVariable dX8_taken_1 rfl rfl rfl ⟨Nat.le_of_ble_eq_true rfl, Nat.le_of_ble_eq_true rfl⟩ (Nat.le_of_ble_eq_true rfl) ⟨Nat.le_refl 0, Nat.le_refl 0⟩ (ct_X8_isVariable hL h1) ?_
  refine g_if_eq (tgt := 14) C dX8_taken_4 (by decide) h ?_ ?_
  · clear h; intro hc4 h
    refine g_iconst (v := (-1 : Int32)) C dX8_taken_14 (by decide) ?_
    exact g_iret C hr hlk dX8_taken_15 h
  · clear h; intro hc4 h
    refine g_iload_n C dX8_taken_7 rfl 2 rfl ?_
    replace h := bs_some h
    obtain ⟨r22, h1, h⟩ := h
    refine g_cS (As := [.int v2]) (rest := []) (stk2 := [.int r22]) C mf_X8_isVariable lk_X8_91 sm_X8_isVariable dX8_taken_8 rfl rfl rfl ⟨Nat.le_of_ble_eq_true rfl, Nat.le_of_ble_eq_true rfl⟩ (Nat.le_of_ble_eq_true rfl) ⟨Nat.le_refl 0, Nat.le_refl 0⟩ (ct_X8_isVariable hL h1) ?_
    refine g_if_ne (tgt := 16) C dX8_taken_11 (by decide) h ?_ ?_
    · clear h; intro hc11 h
      refine g_aload_n C dX8_taken_16 rfl 0 rfl ?_
      replace h := bs_some h
      obtain ⟨s23, h1, h⟩ := h
      refine g_cV (As := []) (rest := []) (stk2 := []) C mf_X8_layTaken ok8 rfl lk_X8_190 in_X8_layTaken se_X8_layTaken dX8_taken_17 (hL 70 rfl) rfl rfl rfl rfl ⟨Nat.le_of_ble_eq_true rfl, Nat.le_of_ble_eq_true rfl⟩ (Nat.le_of_ble_eq_true rfl) ⟨Nat.le_refl 0, Nat.le_refl 0⟩ (ct_X8_layTaken hL h1) ?_
      refine g_aload_n C dX8_taken_20 rfl 0 rfl ?_
      refine g_getR (k2 := 89) C ok8 dX8_taken_21 (hL 70 rfl) rfl 22 (by decide) lk_X8_65 rfl rfl ?_
      refine g_bipush (v := (7 : Int32)) C dX8_taken_24 (by decide) ?_
      refine g_iload_n C dX8_taken_26 rfl 1 rfl ?_
      refine g_imul C dX8_taken_27 ?_
      refine g_iload_n C dX8_taken_28 rfl 2 rfl ?_
      refine g_iadd C dX8_taken_29 ?_
      refine g_zald C dX8_taken_30 (hL 89 rfl) rfl rfl h ?_
      clear h; intro h
      refine g_if_ne (tgt := 48) C dX8_taken_31 (by decide) h ?_ ?_
      · clear h; intro hc31 h
        refine g_iconst (v := (1 : Int32)) C dX8_taken_48 (by decide) ?_
        refine g_goto (tgt := 53) C dX8_taken_49 (by decide) ?_
        exact g_iret C hr hlk dX8_taken_53 h
      · clear h; intro hc31 h
        refine g_aload_n C dX8_taken_34 rfl 0 rfl ?_
        refine g_getR (k2 := 89) C ok8 dX8_taken_35 (hL 70 rfl) rfl 22 (by decide) lk_X8_65 rfl rfl ?_
        refine g_bipush (v := (7 : Int32)) C dX8_taken_38 (by decide) ?_
        refine g_iload_n C dX8_taken_40 rfl 2 rfl ?_
        refine g_imul C dX8_taken_41 ?_
        refine g_iload_n C dX8_taken_42 rfl 1 rfl ?_
        refine g_iadd C dX8_taken_43 ?_
        refine g_zald C dX8_taken_44 (hL 89 rfl) rfl rfl h ?_
        clear h; intro h
        refine g_if_eq (tgt := 52) C dX8_taken_45 (by decide) h ?_ ?_
        · clear h; intro hc45 h
          refine g_iconst (v := (0 : Int32)) C dX8_taken_52 (by decide) ?_
          exact g_iret C hr hlk dX8_taken_53 h
        · clear h; intro hc45 h
          refine g_iconst (v := (1 : Int32)) C dX8_taken_48 (by decide) ?_
          refine g_goto (tgt := 53) C dX8_taken_49 (by decide) ?_
          exact g_iret C hr hlk dX8_taken_53 h
    · clear h; intro hc11 h
      refine g_iconst (v := (-1 : Int32)) C dX8_taken_14 (by decide) ?_
      exact g_iret C hr hlk dX8_taken_15 h
-- X8_exchange
def F_X8_exchange (v1 : Int32) (v2 : Int32) (st : St) : Option (Int32 × St) :=
  bs (F_X8_isVariable v1) (fun (r21 : Int32) => (if r21 = 0 then some ((-1 : Int32), st) else bs (F_X8_isVariable v2) (fun (r22 : Int32) => (if r22 = 0 then some ((-1 : Int32), st) else ck (inb v1 7) (lt (st 76 v1.toNatClampNeg) (fun (v23 : Int32) => ck (inb v2 7) (ck (inb v1 7) (lt (up st 76 v1.toNatClampNeg (st 76 v2.toNatClampNeg)) (fun (s24 : St) => ck (inb v2 7) (lt (up s24 76 v2.toNatClampNeg v23) (fun (s25 : St) => ck (inb v1 7) (some ((s25 76 v1.toNatClampNeg), s25)))))))))))))
set_option maxHeartbeats 4000000 in
set_option maxRecDepth 100000 in
theorem ct_X8_exchange (hL : ∀ k, prF k = true → k ∈ L) {v1 : Int32} {v2 : Int32} {st st' : St} {r' : Int32} (h : F_X8_exchange v1 v2 st = some (r', st')) : Ct l D cy ad A L yX8_exchange cX8_exchange 4 (some .int) 3 [.ref (ad 70), .int v1, .int v2] st (some (.int r')) st' := by
  unfold F_X8_exchange at h
  refine ct_of (own := RX8) (by decide) rfl (Nat.le_of_ble_eq_true rfl) ?_
  intro p e s m args below meth c C hr hlk
  refine g_sub (lv2 := [(0, .ref (ad 70)), (1, .int v1), (2, .int v2)]) [0, 1, 2] rfl ?_
  refine g_iload_n C dX8_exchange_0 rfl 1 rfl ?_
  replace h := bs_some h
  obtain ⟨r21, h1, h⟩ := h
  refine g_cS (As := [.int v1]) (rest := []) (stk2 := [.int r21]) C mf_X8_isVariable lk_X8_91 sm_X8_isVariable dX8_exchange_1 rfl rfl rfl ⟨Nat.le_of_ble_eq_true rfl, Nat.le_of_ble_eq_true rfl⟩ (Nat.le_of_ble_eq_true rfl) ⟨Nat.le_refl 0, Nat.le_refl 0⟩ (ct_X8_isVariable hL h1) ?_
  refine g_if_eq (tgt := 14) C dX8_exchange_4 (by decide) h ?_ ?_
  · clear h; intro hc4 h
    refine g_iconst (v := (-1 : Int32)) C dX8_exchange_14 (by decide) ?_
    exact g_iret C hr hlk dX8_exchange_15 h
  · clear h; intro hc4 h
    refine g_iload_n C dX8_exchange_7 rfl 2 rfl ?_
    replace h := bs_some h
    obtain ⟨r22, h1, h⟩ := h
    refine g_cS (As := [.int v2]) (rest := []) (stk2 := [.int r22]) C mf_X8_isVariable lk_X8_91 sm_X8_isVariable dX8_exchange_8 rfl rfl rfl ⟨Nat.le_of_ble_eq_true rfl, Nat.le_of_ble_eq_true rfl⟩ (Nat.le_of_ble_eq_true rfl) ⟨Nat.le_refl 0, Nat.le_refl 0⟩ (ct_X8_isVariable hL h1) ?_
    refine g_if_ne (tgt := 16) C dX8_exchange_11 (by decide) h ?_ ?_
    · clear h; intro hc11 h
      refine g_aload_n C dX8_exchange_16 rfl 0 rfl ?_
      refine g_getR (k2 := 76) C ok8 dX8_exchange_17 (hL 70 rfl) rfl 6 (by decide) lk_X8_25 rfl rfl ?_
      refine g_iload_n C dX8_exchange_20 rfl 1 rfl ?_
      refine g_iald C dX8_exchange_21 (hL 76 rfl) rfl rfl h ?_
      clear h; intro h
      refine g_istore_n (lv' := fun y => [(3, .int y), (0, .ref (ad 70)), (1, .int v1), (2, .int v2)]) C dX8_exchange_22 rfl (by decide) (fun y => rfl) h ?_
      clear h; intro v23 h
      refine g_aload_n C dX8_exchange_23 rfl 1 rfl ?_
      refine g_getR (k2 := 76) C ok8 dX8_exchange_24 (hL 70 rfl) rfl 6 (by decide) lk_X8_25 rfl rfl ?_
      refine g_iload_n C dX8_exchange_27 rfl 2 rfl ?_
      refine g_aload_n C dX8_exchange_28 rfl 1 rfl ?_
      refine g_getR (k2 := 76) C ok8 dX8_exchange_29 (hL 70 rfl) rfl 6 (by decide) lk_X8_25 rfl rfl ?_
      refine g_iload_n C dX8_exchange_32 rfl 3 rfl ?_
      refine g_iald C dX8_exchange_33 (hL 76 rfl) rfl rfl h ?_
      clear h; intro h
      refine g_iast C dX8_exchange_34 (hL 76 rfl) rfl rfl h ?_
      clear h; intro s24 h
      refine g_aload_n C dX8_exchange_35 rfl 1 rfl ?_
      refine g_getR (k2 := 76) C ok8 dX8_exchange_36 (hL 70 rfl) rfl 6 (by decide) lk_X8_25 rfl rfl ?_
      refine g_iload_n C dX8_exchange_39 rfl 3 rfl ?_
      refine g_iload_n C dX8_exchange_40 rfl 0 rfl ?_
      refine g_iast C dX8_exchange_41 (hL 76 rfl) rfl rfl h ?_
      clear h; intro s25 h
      refine g_aload_n C dX8_exchange_42 rfl 1 rfl ?_
      refine g_getR (k2 := 76) C ok8 dX8_exchange_43 (hL 70 rfl) rfl 6 (by decide) lk_X8_25 rfl rfl ?_
      refine g_iload_n C dX8_exchange_46 rfl 2 rfl ?_
      refine g_iald C dX8_exchange_47 (hL 76 rfl) rfl rfl h ?_
      clear h; intro h
      exact g_iret C hr hlk dX8_exchange_48 h
    · clear h; intro hc11 h
      refine g_iconst (v := (-1 : Int32)) C dX8_exchange_14 (by decide) ?_
      exact g_iret C hr hlk dX8_exchange_15 h
-- X8_hand
def lpB_X8_hand_14 (K38 : St → Option (Int32 × St)) (self : Int32 → St → Option (Int32 × St)) (v2 : Int32) (st : St) : Option (Int32 × St) :=
  (if (7 : Int32) ≤ v2 then K38 st else ck (inb v2 7) (ck (inb v2 7) (lt (up st 80 v2.toNatClampNeg (st 76 v2.toNatClampNeg)) (fun (s23 : St) => lt (v2 + (1 : Int32)) (fun (v24 : Int32) => self v24 s23)))))
def lp_X8_hand_14 (K38 : St → Option (Int32 × St)) : Nat → Int32 → St → Option (Int32 × St) := itf (lpB_X8_hand_14 K38) (fun _ _ => none)
def F_X8_hand (N : Nat) (v1 : Int32) (st : St) : Option (Int32 × St) :=
  bs (F_X8_in v1 (0 : Int32) (1 : Int32)) (fun (r21 : Int32) => (if r21 = 0 then some ((-2 : Int32), st) else lt (0 : Int32) (fun (v22 : Int32) => lp_X8_hand_14 (fun (s25 : St) => bd (F_X8_layPay N (127 : Int32) v1 s25) (fun (r26 : Int32) (s27 : St) => some (r26, s27))) N v22 st)))
set_option maxHeartbeats 4000000 in
set_option maxRecDepth 100000 in
theorem wlp_X8_hand_14 (C : Cx p s m args c cX8_hand RX8 3 D cy ad A L) (hr : meth.sig.returnType = (some .int)) (hlk : meth.locks = false) (hL : ∀ k, prF k = true → k ∈ L) {N : Nat} {v1 : Int32} {r' : Int32} {st' : St} {K38 : St → Option (Int32 × St)} (hK38 : ∀  (st : St), K38 st = some (r', st') → Gm p l e (rmD 5) s m args below meth c D cy ad A L 3 0 0 (MQ below (QG D cy ad A L (some (.int r')) st') args s 0 0 A) 38 [(0, .ref (ad 70)), (1, .int v1)] [] st) : ∀ (n : Nat) (v2 : Int32) (st : St), lp_X8_hand_14 K38 n v2 st = some (r', st') → Gm p l e (rmD 5) s m args below meth c D cy ad A L 3 0 0 (MQ below (QG D cy ad A L (some (.int r')) st') args s 0 0 A) 14 [(0, .ref (ad 70)), (1, .int v1), (2, .int v2)] [] st := by
  intro n
  induction n with
  | zero => intro v2 st h; cases h
  | succ n ih =>
    intro v2 st h
    change lpB_X8_hand_14 K38 (lp_X8_hand_14 K38 n) v2 st = some _ at h
    unfold lpB_X8_hand_14 at h
    refine g_iload_n C dX8_hand_14 rfl 2 rfl ?_
    refine g_bipush (v := (7 : Int32)) C dX8_hand_15 (by decide) ?_
    refine g_icmp_ge (tgt := 38) C dX8_hand_17 (by decide) h ?_ ?_
    · clear h; intro hc17 h
      refine g_sub (lv2 := [(0, .ref (ad 70)), (1, .int v1)]) [0, 1] rfl ?_
      exact hK38 _ h
    · clear h; intro hc17 h
      refine g_aload_n C dX8_hand_20 rfl 0 rfl ?_
      refine g_getR (k2 := 80) C ok8 dX8_hand_21 (hL 70 rfl) rfl 10 (by decide) lk_X8_38 rfl rfl ?_
      refine g_iload_n C dX8_hand_24 rfl 2 rfl ?_
      refine g_aload_n C dX8_hand_25 rfl 0 rfl ?_
      refine g_getR (k2 := 76) C ok8 dX8_hand_26 (hL 70 rfl) rfl 6 (by decide) lk_X8_25 rfl rfl ?_
      refine g_iload_n C dX8_hand_29 rfl 2 rfl ?_
      refine g_iald C dX8_hand_30 (hL 76 rfl) rfl rfl h ?_
      clear h; intro h
      refine g_iast C dX8_hand_31 (hL 80 rfl) rfl rfl h ?_
      clear h; intro s23 h
      refine g_iinc (lv' := fun y => [(2, .int y), (0, .ref (ad 70)), (1, .int v1)]) C dX8_hand_32 2 rfl rfl (by decide) (fun y => rfl) h ?_
      clear h; intro v24 h
      refine g_goto (tgt := 14) C dX8_hand_35 (by decide) ?_
      refine g_sub (lv2 := [(0, .ref (ad 70)), (1, .int v1), (2, .int v24)]) [1, 2, 0] rfl ?_
      exact ih _ _ h
set_option maxHeartbeats 4000000 in
set_option maxRecDepth 100000 in
theorem ct_X8_hand {N : Nat} (hL : ∀ k, prF k = true → k ∈ L) {v1 : Int32} {st st' : St} {r' : Int32} (h : F_X8_hand N v1 st = some (r', st')) : Ct l D cy ad A L yX8_hand cX8_hand 3 (some .int) 5 [.ref (ad 70), .int v1] st (some (.int r')) st' := by
  unfold F_X8_hand at h
  refine ct_of (own := RX8) (by decide) rfl (Nat.le_of_ble_eq_true rfl) ?_
  intro p e s m args below meth c C hr hlk
  refine g_sub (lv2 := [(0, .ref (ad 70)), (1, .int v1)]) [0, 1] rfl ?_
  refine g_iload_n C dX8_hand_0 rfl 1 rfl ?_
  refine g_iconst (v := (0 : Int32)) C dX8_hand_1 (by decide) ?_
  refine g_iconst (v := (1 : Int32)) C dX8_hand_2 (by decide) ?_
  replace h := bs_some h
  obtain ⟨r21, h1, h⟩ := h
  refine g_cS (As := [.int v1, .int (0 : Int32), .int (1 : Int32)]) (rest := []) (stk2 := [.int r21]) C mf_X8_in lk_X8_83 sm_X8_in dX8_hand_3 rfl rfl rfl ⟨Nat.le_of_ble_eq_true rfl, Nat.le_of_ble_eq_true rfl⟩ (Nat.le_of_ble_eq_true rfl) ⟨Nat.le_refl 0, Nat.le_refl 0⟩ (ct_X8_in hL h1) ?_
  refine g_if_ne (tgt := 12) C dX8_hand_6 (by decide) h ?_ ?_
  · clear h; intro hc6 h
    refine g_iconst (v := (0 : Int32)) C dX8_hand_12 (by decide) ?_
    refine g_istore_n (lv' := fun y => [(2, .int y), (0, .ref (ad 70)), (1, .int v1)]) C dX8_hand_13 rfl (by decide) (fun y => rfl) h ?_
    clear h; intro v22 h
    refine g_sub (lv2 := [(0, .ref (ad 70)), (1, .int v1), (2, .int v22)]) [1, 2, 0] rfl ?_
    refine wlp_X8_hand_14 (N := N) C hr hlk hL ?_ _ _ _ h
    · intro s25 h
      refine g_aload_n C dX8_hand_38 rfl 0 rfl ?_
      refine g_bipush (v := (127 : Int32)) C dX8_hand_39 (by decide) ?_
      refine g_iload_n C dX8_hand_41 rfl 1 rfl ?_
      replace h := bd_some h
      obtain ⟨r26, s27, h1, h⟩ := h
      refine g_cV (As := [.int (127 : Int32), .int v1]) (rest := []) (stk2 := [.int r26]) C mf_X8_layPay ok8 rfl lk_X8_131 in_X8_layPay se_X8_layPay dX8_hand_42 (hL 70 rfl) rfl rfl rfl rfl ⟨Nat.le_of_ble_eq_true rfl, Nat.le_of_ble_eq_true rfl⟩ (Nat.le_of_ble_eq_true rfl) ⟨Nat.le_refl 0, Nat.le_refl 0⟩ (ct_X8_layPay hL h1) ?_
      exact g_iret C hr hlk dX8_hand_45 h
  · clear h; intro hc6 h
    refine g_bipush (v := (-2 : Int32)) C dX8_hand_9 (by decide) ?_
    exact g_iret C hr hlk dX8_hand_11 h
-- X8_greedyCost
def lpB_X8_greedyCost_19 (st : St) (self : Int32 → Int32 → Option (Int32 × St)) (v1 : Int32) (v2 : Int32) : Option (Int32 × St) :=
  (if (49 : Int32) ≤ v2 then some (v1, st) else ck (decide ((7 : Int32) ≠ 0)) (ck (decide ((7 : Int32) ≠ 0)) (lt (lt (v1 + (0 : Int32)) (fun (v29 : Int32) => lt (v2 + (1 : Int32)) (fun (v30 : Int32) => self v29 v30))) (fun (j28 : Option (Int32 × St)) => (if (v2 - v2 / (7 : Int32) * (7 : Int32)) ≤ (v2 / (7 : Int32)) then j28 else ck (inb v2 49) ((if (st 89 v2.toNatClampNeg) = 0 then ck (inb v2 49) (lt (v1 + (st 88 v2.toNatClampNeg)) (fun (v31 : Int32) => lt (v2 + (1 : Int32)) (fun (v32 : Int32) => self v31 v32))) else j28)))))))
def lp_X8_greedyCost_19 (st : St) : Nat → Int32 → Int32 → Option (Int32 × St) := itf (lpB_X8_greedyCost_19 st) (fun _ _ => none)
def F_X8_greedyCost (N : Nat) (st : St) : Option (Int32 × St) :=
  bs (F_X8_layTaken N st) (fun (s21 : St) => bd (F_X8_usedOnes N s21) (fun (r22 : Int32) (s23 : St) => lt (fun (x24 : Int32) => lt x24 (fun (v26 : Int32) => lt (0 : Int32) (fun (v27 : Int32) => lp_X8_greedyCost_19 s23  N v26 v27))) (fun (j25 : Int32 → Option (Int32 × St)) => (if r22 = 0 then j25 (0 : Int32) else j25 (1 : Int32)))))
set_option maxHeartbeats 4000000 in
set_option maxRecDepth 100000 in
theorem wlp_X8_greedyCost_19 (C : Cx p s m args c cX8_greedyCost RX8 3 D cy ad A L) (hr : meth.sig.returnType = (some .int)) (hlk : meth.locks = false) (hL : ∀ k, prF k = true → k ∈ L) {N : Nat} {r' : Int32} {st' : St} {st : St} : ∀ (n : Nat) (v1 : Int32) (v2 : Int32), lp_X8_greedyCost_19 st n v1 v2 = some (r', st') → Gm p l e (rmD 5) s m args below meth c D cy ad A L 3 0 0 (MQ below (QG D cy ad A L (some (.int r')) st') args s 0 0 A) 19 [(0, .ref (ad 70)), (1, .int v1), (2, .int v2)] [] st := by
  intro n
  induction n with
  | zero => intro v1 v2 h; cases h
  | succ n ih =>
    intro v1 v2 h
    change lpB_X8_greedyCost_19 st (lp_X8_greedyCost_19 st n) v1 v2 = some _ at h
    unfold lpB_X8_greedyCost_19 at h
    refine g_iload_n C dX8_greedyCost_19 rfl 2 rfl ?_
    refine g_bipush (v := (49 : Int32)) C dX8_greedyCost_20 (by decide) ?_
    refine g_icmp_ge (tgt := 64) C dX8_greedyCost_22 (by decide) h ?_ ?_
    · clear h; intro hc22 h
      refine g_iload_n C dX8_greedyCost_64 rfl 1 rfl ?_
      exact g_iret C hr hlk dX8_greedyCost_65 h
    · clear h; intro hc22 h
      refine g_iload_n C dX8_greedyCost_25 rfl 1 rfl ?_
      refine g_iload_n C dX8_greedyCost_26 rfl 2 rfl ?_
      refine g_bipush (v := (7 : Int32)) C dX8_greedyCost_27 (by decide) ?_
      refine g_idiv C dX8_greedyCost_29 h ?_
      clear h; intro h
      refine g_iload_n C dX8_greedyCost_30 rfl 2 rfl ?_
      refine g_bipush (v := (7 : Int32)) C dX8_greedyCost_31 (by decide) ?_
      refine g_irem C dX8_greedyCost_33 h ?_
      clear h; intro h
      replace h := lt_ex h
      obtain ⟨j28, ej28, h⟩ := h
      have hj28 : j28 = some (r', st') → Gm p l e (rmD 5) s m args below meth c D cy ad A L 3 0 0 (MQ below (QG D cy ad A L (some (.int r')) st') args s 0 0 A) 55 [(0, .ref (ad 70)), (2, .int v2)] [.int v1] st := by
        intro h
        rw [ej28] at h
        skip
        refine g_iconst (v := (0 : Int32)) C dX8_greedyCost_55 (by decide) ?_
        refine g_iadd C dX8_greedyCost_56 ?_
        refine g_istore_n (lv' := fun y => [(1, .int y), (0, .ref (ad 70)), (2, .int v2)]) C dX8_greedyCost_57 rfl (by decide) (fun y => rfl) h ?_
        clear h; intro v29 h
        refine g_iinc (lv' := fun y => [(2, .int y), (1, .int v29), (0, .ref (ad 70))]) C dX8_greedyCost_58 2 rfl rfl (by decide) (fun y => rfl) h ?_
        clear h; intro v30 h
        refine g_goto (tgt := 19) C dX8_greedyCost_61 (by decide) ?_
        refine g_sub (lv2 := [(0, .ref (ad 70)), (1, .int v29), (2, .int v30)]) [2, 1, 0] rfl ?_
        exact ih _ _ h
      refine g_icmp_ge (tgt := 55) C dX8_greedyCost_34 (by decide) h ?_ ?_
      · clear h; intro hc34 h
        refine g_sub (lv2 := [(0, .ref (ad 70)), (2, .int v2)]) [0, 2] rfl ?_
        exact hj28  h
      · clear h; intro hc34 h
        refine g_aload_n C dX8_greedyCost_37 rfl 0 rfl ?_
        refine g_getR (k2 := 89) C ok8 dX8_greedyCost_38 (hL 70 rfl) rfl 22 (by decide) lk_X8_65 rfl rfl ?_
        refine g_iload_n C dX8_greedyCost_41 rfl 2 rfl ?_
        refine g_zald C dX8_greedyCost_42 (hL 89 rfl) rfl rfl h ?_
        clear h; intro h
        refine g_if_ne (tgt := 55) C dX8_greedyCost_43 (by decide) h ?_ ?_
        · clear h; intro hc43 h
          refine g_sub (lv2 := [(0, .ref (ad 70)), (2, .int v2)]) [0, 2] rfl ?_
          exact hj28  h
        · clear h; intro hc43 h
          refine g_aload_n C dX8_greedyCost_46 rfl 0 rfl ?_
          refine g_getR (k2 := 88) C ok8 dX8_greedyCost_47 (hL 70 rfl) rfl 21 (by decide) lk_X8_62 rfl rfl ?_
          refine g_iload_n C dX8_greedyCost_50 rfl 2 rfl ?_
          refine g_iald C dX8_greedyCost_51 (hL 88 rfl) rfl rfl h ?_
          clear h; intro h
          refine g_goto (tgt := 56) C dX8_greedyCost_52 (by decide) ?_
          refine g_iadd C dX8_greedyCost_56 ?_
          refine g_istore_n (lv' := fun y => [(1, .int y), (0, .ref (ad 70)), (2, .int v2)]) C dX8_greedyCost_57 rfl (by decide) (fun y => rfl) h ?_
          clear h; intro v31 h
          refine g_iinc (lv' := fun y => [(2, .int y), (1, .int v31), (0, .ref (ad 70))]) C dX8_greedyCost_58 2 rfl rfl (by decide) (fun y => rfl) h ?_
          clear h; intro v32 h
          refine g_goto (tgt := 19) C dX8_greedyCost_61 (by decide) ?_
          refine g_sub (lv2 := [(0, .ref (ad 70)), (1, .int v31), (2, .int v32)]) [2, 1, 0] rfl ?_
          exact ih _ _ h
set_option maxHeartbeats 4000000 in
set_option maxRecDepth 100000 in
theorem ct_X8_greedyCost {N : Nat} (hL : ∀ k, prF k = true → k ∈ L) {st st' : St} {r' : Int32} (h : F_X8_greedyCost N st = some (r', st')) : Ct l D cy ad A L yX8_greedyCost cX8_greedyCost 3 (some .int) 5 [.ref (ad 70)] st (some (.int r')) st' := by
  unfold F_X8_greedyCost at h
  refine ct_of (own := RX8) (by decide) rfl (Nat.le_of_ble_eq_true rfl) ?_
  intro p e s m args below meth c C hr hlk
  refine g_sub (lv2 := [(0, .ref (ad 70))]) [0] rfl ?_
  refine g_aload_n C dX8_greedyCost_0 rfl 0 rfl ?_
  replace h := bs_some h
  obtain ⟨s21, h1, h⟩ := h
  refine g_cV (As := []) (rest := []) (stk2 := []) C mf_X8_layTaken ok8 rfl lk_X8_190 in_X8_layTaken se_X8_layTaken dX8_greedyCost_1 (hL 70 rfl) rfl rfl rfl rfl ⟨Nat.le_of_ble_eq_true rfl, Nat.le_of_ble_eq_true rfl⟩ (Nat.le_of_ble_eq_true rfl) ⟨Nat.le_refl 0, Nat.le_refl 0⟩ (ct_X8_layTaken hL h1) ?_
  refine g_aload_n C dX8_greedyCost_4 rfl 0 rfl ?_
  replace h := bd_some h
  obtain ⟨r22, s23, h1, h⟩ := h
  refine g_cV (As := []) (rest := []) (stk2 := [.int r22]) C mf_X8_usedOnes ok8 rfl lk_X8_142 in_X8_usedOnes se_X8_usedOnes dX8_greedyCost_5 (hL 70 rfl) rfl rfl rfl rfl ⟨Nat.le_of_ble_eq_true rfl, Nat.le_of_ble_eq_true rfl⟩ (Nat.le_of_ble_eq_true rfl) ⟨Nat.le_refl 0, Nat.le_refl 0⟩ (ct_X8_usedOnes hL h1) ?_
  replace h := lt_ex h
  obtain ⟨j25, ej25, h⟩ := h
  have hj25 : ∀ (x24 : Int32), j25 x24 = some (r', st') → Gm p l e (rmD 5) s m args below meth c D cy ad A L 3 0 0 (MQ below (QG D cy ad A L (some (.int r')) st') args s 0 0 A) 16 [(0, .ref (ad 70))] [.int x24] s23 := by
    intro x24 h
    rw [ej25] at h
    dsimp only at h
    refine g_istore_n (lv' := fun y => [(1, .int y), (0, .ref (ad 70))]) C dX8_greedyCost_16 rfl (by decide) (fun y => rfl) h ?_
    clear h; intro v26 h
    refine g_iconst (v := (0 : Int32)) C dX8_greedyCost_17 (by decide) ?_
    refine g_istore_n (lv' := fun y => [(2, .int y), (1, .int v26), (0, .ref (ad 70))]) C dX8_greedyCost_18 rfl (by decide) (fun y => rfl) h ?_
    clear h; intro v27 h
    refine g_sub (lv2 := [(0, .ref (ad 70)), (1, .int v26), (2, .int v27)]) [2, 1, 0] rfl ?_
    refine wlp_X8_greedyCost_19 (N := N) C hr hlk hL  _ _ _ h
  refine g_if_eq (tgt := 15) C dX8_greedyCost_8 (by decide) h ?_ ?_
  · clear h; intro hc8 h
    refine g_iconst (v := (0 : Int32)) C dX8_greedyCost_15 (by decide) ?_
    refine g_sub (lv2 := [(0, .ref (ad 70))]) [0] rfl ?_
    exact hj25 _ h
  · clear h; intro hc8 h
    refine g_iconst (v := (1 : Int32)) C dX8_greedyCost_11 (by decide) ?_
    refine g_goto (tgt := 16) C dX8_greedyCost_12 (by decide) ?_
    refine g_sub (lv2 := [(0, .ref (ad 70))]) [0] rfl ?_
    exact hj25 _ h
-- X8_bound
def lpB_X8_bound_24 (K67 : Int32 → St → Option (Int32 × St)) (self : Int32 → Int32 → St → Option (Int32 × St)) (v2 : Int32) (v3 : Int32) (st : St) : Option (Int32 × St) :=
  (if (49 : Int32) ≤ v3 then K67 v2 st else ck (inb v3 49) (lt (up st 90 v3.toNatClampNeg (vp_nar .boolean (0 : Int32))) (fun (s30 : St) => ck (decide ((7 : Int32) ≠ 0)) (ck (decide ((7 : Int32) ≠ 0)) ((if (v3 - v3 / (7 : Int32) * (7 : Int32)) ≤ (v3 / (7 : Int32)) then lt (v2 + (0 : Int32)) (fun (v31 : Int32) => lt (v3 + (1 : Int32)) (fun (v32 : Int32) => self v31 v32 s30)) else ck (inb v3 49) (lt (v2 + (s30 88 v3.toNatClampNeg)) (fun (v33 : Int32) => lt (v3 + (1 : Int32)) (fun (v34 : Int32) => self v33 v34 s30)))))))))
def lp_X8_bound_24 (K67 : Int32 → St → Option (Int32 × St)) : Nat → Int32 → Int32 → St → Option (Int32 × St) := itf (lpB_X8_bound_24 K67) (fun _ _ _ => none)
def lpB_X8_bound_69 (N : Nat) (v1 : Int32) (self : Int32 → Int32 → St → Option (Int32 × St)) (v2 : Int32) (v3 : Int32) (st : St) : Option (Int32 × St) :=
  (if v1 ≤ v3 then some (v2, st) else bs (F_X8_heaviest N st) (fun (r38 : Int32) => lt r38 (fun (v39 : Int32) => (if v39 < 0 then lt (v3 + (1 : Int32)) (fun (v40 : Int32) => self v2 v40 st) else ck (inb v39 49) (lt (up st 90 v39.toNatClampNeg (vp_nar .boolean (1 : Int32))) (fun (s41 : St) => ck (inb v39 49) (lt (v2 - (s41 88 v39.toNatClampNeg)) (fun (v42 : Int32) => lt (v3 + (1 : Int32)) (fun (v43 : Int32) => self v42 v43 s41)))))))))
def lp_X8_bound_69 (N : Nat) (v1 : Int32) : Nat → Int32 → Int32 → St → Option (Int32 × St) := itf (lpB_X8_bound_69 N v1) (fun _ _ _ => none)
def F_X8_bound (N : Nat) (st : St) : Option (Int32 × St) :=
  bs (F_X8_layWeights N st) (fun (s21 : St) => bd (F_X8_usedOnes N s21) (fun (r22 : Int32) (s23 : St) => bs (F_X8_bits N r22) (fun (r24 : Int32) => lt r24 (fun (v25 : Int32) => lt (fun (x26 : Int32) => lt x26 (fun (v28 : Int32) => lt (0 : Int32) (fun (v29 : Int32) => lp_X8_bound_24 (fun (v35 : Int32) (s36 : St) => lt (1 : Int32) (fun (v37 : Int32) => lp_X8_bound_69 N v25  N v35 v37 s36)) N v28 v29 s23))) (fun (j27 : Int32 → Option (Int32 × St)) => (if v25 ≤ 0 then j27 (0 : Int32) else j27 (1 : Int32)))))))
set_option maxHeartbeats 4000000 in
set_option maxRecDepth 100000 in
theorem wlp_X8_bound_24 (C : Cx p s m args c cX8_bound RX8 5 D cy ad A L) (hr : meth.sig.returnType = (some .int)) (hlk : meth.locks = false) (hL : ∀ k, prF k = true → k ∈ L) {N : Nat} {v1 : Int32} {r' : Int32} {st' : St} {K67 : Int32 → St → Option (Int32 × St)} (hK67 : ∀ (v2 : Int32) (st : St), K67 v2 st = some (r', st') → Gm p l e (rmD 4) s m args below meth c D cy ad A L 5 0 0 (MQ below (QG D cy ad A L (some (.int r')) st') args s 0 0 A) 67 [(0, .ref (ad 70)), (1, .int v1), (2, .int v2)] [] st) : ∀ (n : Nat) (v2 : Int32) (v3 : Int32) (st : St), lp_X8_bound_24 K67 n v2 v3 st = some (r', st') → Gm p l e (rmD 4) s m args below meth c D cy ad A L 5 0 0 (MQ below (QG D cy ad A L (some (.int r')) st') args s 0 0 A) 24 [(0, .ref (ad 70)), (1, .int v1), (2, .int v2), (3, .int v3)] [] st := by
  intro n
  induction n with
  | zero => intro v2 v3 st h; cases h
  | succ n ih =>
    intro v2 v3 st h
    change lpB_X8_bound_24 K67 (lp_X8_bound_24 K67 n) v2 v3 st = some _ at h
    unfold lpB_X8_bound_24 at h
    refine g_iload_n C dX8_bound_24 rfl 3 rfl ?_
    refine g_bipush (v := (49 : Int32)) C dX8_bound_25 (by decide) ?_
    refine g_icmp_ge (tgt := 67) C dX8_bound_27 (by decide) h ?_ ?_
    · clear h; intro hc27 h
      refine g_sub (lv2 := [(0, .ref (ad 70)), (1, .int v1), (2, .int v2)]) [0, 1, 2] rfl ?_
      exact hK67 _ _ h
    · clear h; intro hc27 h
      refine g_aload_n C dX8_bound_30 rfl 0 rfl ?_
      refine g_getR (k2 := 90) C ok8 dX8_bound_31 (hL 70 rfl) rfl 23 (by decide) lk_X8_68 rfl rfl ?_
      refine g_iload_n C dX8_bound_34 rfl 3 rfl ?_
      refine g_iconst (v := (0 : Int32)) C dX8_bound_35 (by decide) ?_
      refine g_zast C dX8_bound_36 (hL 90 rfl) rfl rfl h ?_
      clear h; intro s30 h
      refine g_iload_n C dX8_bound_37 rfl 2 rfl ?_
      refine g_iload_n C dX8_bound_38 rfl 3 rfl ?_
      refine g_bipush (v := (7 : Int32)) C dX8_bound_39 (by decide) ?_
      refine g_idiv C dX8_bound_41 h ?_
      clear h; intro h
      refine g_iload_n C dX8_bound_42 rfl 3 rfl ?_
      refine g_bipush (v := (7 : Int32)) C dX8_bound_43 (by decide) ?_
      refine g_irem C dX8_bound_45 h ?_
      clear h; intro h
      refine g_icmp_ge (tgt := 58) C dX8_bound_46 (by decide) h ?_ ?_
      · clear h; intro hc46 h
        refine g_iconst (v := (0 : Int32)) C dX8_bound_58 (by decide) ?_
        refine g_iadd C dX8_bound_59 ?_
        refine g_istore_n (lv' := fun y => [(2, .int y), (0, .ref (ad 70)), (1, .int v1), (3, .int v3)]) C dX8_bound_60 rfl (by decide) (fun y => rfl) h ?_
        clear h; intro v31 h
        refine g_iinc (lv' := fun y => [(3, .int y), (2, .int v31), (0, .ref (ad 70)), (1, .int v1)]) C dX8_bound_61 3 rfl rfl (by decide) (fun y => rfl) h ?_
        clear h; intro v32 h
        refine g_goto (tgt := 24) C dX8_bound_64 (by decide) ?_
        refine g_sub (lv2 := [(0, .ref (ad 70)), (1, .int v1), (2, .int v31), (3, .int v32)]) [2, 3, 1, 0] rfl ?_
        exact ih _ _ _ h
      · clear h; intro hc46 h
        refine g_aload_n C dX8_bound_49 rfl 0 rfl ?_
        refine g_getR (k2 := 88) C ok8 dX8_bound_50 (hL 70 rfl) rfl 21 (by decide) lk_X8_62 rfl rfl ?_
        refine g_iload_n C dX8_bound_53 rfl 3 rfl ?_
        refine g_iald C dX8_bound_54 (hL 88 rfl) rfl rfl h ?_
        clear h; intro h
        refine g_goto (tgt := 59) C dX8_bound_55 (by decide) ?_
        refine g_iadd C dX8_bound_59 ?_
        refine g_istore_n (lv' := fun y => [(2, .int y), (0, .ref (ad 70)), (1, .int v1), (3, .int v3)]) C dX8_bound_60 rfl (by decide) (fun y => rfl) h ?_
        clear h; intro v33 h
        refine g_iinc (lv' := fun y => [(3, .int y), (2, .int v33), (0, .ref (ad 70)), (1, .int v1)]) C dX8_bound_61 3 rfl rfl (by decide) (fun y => rfl) h ?_
        clear h; intro v34 h
        refine g_goto (tgt := 24) C dX8_bound_64 (by decide) ?_
        refine g_sub (lv2 := [(0, .ref (ad 70)), (1, .int v1), (2, .int v33), (3, .int v34)]) [2, 3, 1, 0] rfl ?_
        exact ih _ _ _ h
set_option maxHeartbeats 4000000 in
set_option maxRecDepth 100000 in
theorem wlp_X8_bound_69 (C : Cx p s m args c cX8_bound RX8 5 D cy ad A L) (hr : meth.sig.returnType = (some .int)) (hlk : meth.locks = false) (hL : ∀ k, prF k = true → k ∈ L) {N : Nat} {v1 : Int32} {r' : Int32} {st' : St} : ∀ (n : Nat) (v2 : Int32) (v3 : Int32) (st : St), lp_X8_bound_69 N v1 n v2 v3 st = some (r', st') → Gm p l e (rmD 4) s m args below meth c D cy ad A L 5 0 0 (MQ below (QG D cy ad A L (some (.int r')) st') args s 0 0 A) 69 [(0, .ref (ad 70)), (1, .int v1), (2, .int v2), (3, .int v3)] [] st := by
  intro n
  induction n with
  | zero => intro v2 v3 st h; cases h
  | succ n ih =>
    intro v2 v3 st h
    change lpB_X8_bound_69 N v1 (lp_X8_bound_69 N v1 n) v2 v3 st = some _ at h
    unfold lpB_X8_bound_69 at h
    refine g_iload_n C dX8_bound_69 rfl 3 rfl ?_
    refine g_iload_n C dX8_bound_70 rfl 1 rfl ?_
    refine g_icmp_ge (tgt := 109) C dX8_bound_71 (by decide) h ?_ ?_
    · clear h; intro hc71 h
      refine g_iload_n C dX8_bound_109 rfl 2 rfl ?_
      exact g_iret C hr hlk dX8_bound_110 h
    · clear h; intro hc71 h
      refine g_aload_n C dX8_bound_74 rfl 0 rfl ?_
      replace h := bs_some h
      obtain ⟨r38, h1, h⟩ := h
      refine g_cV (As := []) (rest := []) (stk2 := [.int r38]) C mf_X8_heaviest ok8 rfl lk_X8_187 in_X8_heaviest se_X8_heaviest dX8_bound_75 (hL 70 rfl) rfl rfl rfl rfl ⟨Nat.le_of_ble_eq_true rfl, Nat.le_of_ble_eq_true rfl⟩ (Nat.le_of_ble_eq_true rfl) ⟨Nat.le_refl 0, Nat.le_refl 0⟩ (ct_X8_heaviest hL h1) ?_
      refine g_istore (lv' := fun y => [(4, .int y), (0, .ref (ad 70)), (1, .int v1), (2, .int v2), (3, .int v3)]) C dX8_bound_78 (by decide) (fun y => rfl) h ?_
      clear h; intro v39 h
      refine g_iload C dX8_bound_80 0 rfl ?_
      refine g_if_lt (tgt := 103) C dX8_bound_82 (by decide) h ?_ ?_
      · clear h; intro hc82 h
        refine g_iinc (lv' := fun y => [(3, .int y), (4, .int v39), (0, .ref (ad 70)), (1, .int v1), (2, .int v2)]) C dX8_bound_103 4 rfl rfl (by decide) (fun y => rfl) h ?_
        clear h; intro v40 h
        refine g_goto (tgt := 69) C dX8_bound_106 (by decide) ?_
        refine g_sub (lv2 := [(0, .ref (ad 70)), (1, .int v1), (2, .int v2), (3, .int v40)]) [2, 3, 4, 0] rfl ?_
        exact ih _ _ _ h
      · clear h; intro hc82 h
        refine g_aload_n C dX8_bound_85 rfl 1 rfl ?_
        refine g_getR (k2 := 90) C ok8 dX8_bound_86 (hL 70 rfl) rfl 23 (by decide) lk_X8_68 rfl rfl ?_
        refine g_iload C dX8_bound_89 0 rfl ?_
        refine g_iconst (v := (1 : Int32)) C dX8_bound_91 (by decide) ?_
        refine g_zast C dX8_bound_92 (hL 90 rfl) rfl rfl h ?_
        clear h; intro s41 h
        refine g_iload_n C dX8_bound_93 rfl 3 rfl ?_
        refine g_aload_n C dX8_bound_94 rfl 1 rfl ?_
        refine g_getR (k2 := 88) C ok8 dX8_bound_95 (hL 70 rfl) rfl 21 (by decide) lk_X8_62 rfl rfl ?_
        refine g_iload C dX8_bound_98 0 rfl ?_
        refine g_iald C dX8_bound_100 (hL 88 rfl) rfl rfl h ?_
        clear h; intro h
        refine g_isub C dX8_bound_101 ?_
        refine g_istore_n (lv' := fun y => [(2, .int y), (4, .int v39), (0, .ref (ad 70)), (1, .int v1), (3, .int v3)]) C dX8_bound_102 rfl (by decide) (fun y => rfl) h ?_
        clear h; intro v42 h
        refine g_iinc (lv' := fun y => [(3, .int y), (2, .int v42), (4, .int v39), (0, .ref (ad 70)), (1, .int v1)]) C dX8_bound_103 4 rfl rfl (by decide) (fun y => rfl) h ?_
        clear h; intro v43 h
        refine g_goto (tgt := 69) C dX8_bound_106 (by decide) ?_
        refine g_sub (lv2 := [(0, .ref (ad 70)), (1, .int v1), (2, .int v42), (3, .int v43)]) [3, 4, 1, 0] rfl ?_
        exact ih _ _ _ h
set_option maxHeartbeats 4000000 in
set_option maxRecDepth 100000 in
theorem ct_X8_bound {N : Nat} (hL : ∀ k, prF k = true → k ∈ L) {st st' : St} {r' : Int32} (h : F_X8_bound N st = some (r', st')) : Ct l D cy ad A L yX8_bound cX8_bound 5 (some .int) 4 [.ref (ad 70)] st (some (.int r')) st' := by
  unfold F_X8_bound at h
  refine ct_of (own := RX8) (by decide) rfl (Nat.le_of_ble_eq_true rfl) ?_
  intro p e s m args below meth c C hr hlk
  refine g_sub (lv2 := [(0, .ref (ad 70))]) [0] rfl ?_
  refine g_aload_n C dX8_bound_0 rfl 0 rfl ?_
  replace h := bs_some h
  obtain ⟨s21, h1, h⟩ := h
  refine g_cV (As := []) (rest := []) (stk2 := []) C mf_X8_layWeights ok8 rfl lk_X8_181 in_X8_layWeights se_X8_layWeights dX8_bound_1 (hL 70 rfl) rfl rfl rfl rfl ⟨Nat.le_of_ble_eq_true rfl, Nat.le_of_ble_eq_true rfl⟩ (Nat.le_of_ble_eq_true rfl) ⟨Nat.le_refl 0, Nat.le_refl 0⟩ (ct_X8_layWeights hL h1) ?_
  refine g_aload_n C dX8_bound_4 rfl 0 rfl ?_
  replace h := bd_some h
  obtain ⟨r22, s23, h1, h⟩ := h
  refine g_cV (As := []) (rest := []) (stk2 := [.int r22]) C mf_X8_usedOnes ok8 rfl lk_X8_142 in_X8_usedOnes se_X8_usedOnes dX8_bound_5 (hL 70 rfl) rfl rfl rfl rfl ⟨Nat.le_of_ble_eq_true rfl, Nat.le_of_ble_eq_true rfl⟩ (Nat.le_of_ble_eq_true rfl) ⟨Nat.le_refl 0, Nat.le_refl 0⟩ (ct_X8_usedOnes hL h1) ?_
  replace h := bs_some h
  obtain ⟨r24, h1, h⟩ := h
  refine g_cS (As := [.int r22]) (rest := []) (stk2 := [.int r24]) C mf_X8_bits lk_X8_153 sm_X8_bits dX8_bound_8 rfl rfl rfl ⟨Nat.le_of_ble_eq_true rfl, Nat.le_of_ble_eq_true rfl⟩ (Nat.le_of_ble_eq_true rfl) ⟨Nat.le_refl 0, Nat.le_refl 0⟩ (ct_X8_bits hL h1) ?_
  refine g_istore_n (lv' := fun y => [(1, .int y), (0, .ref (ad 70))]) C dX8_bound_11 rfl (by decide) (fun y => rfl) h ?_
  clear h; intro v25 h
  refine g_iload_n C dX8_bound_12 rfl 0 rfl ?_
  replace h := lt_ex h
  obtain ⟨j27, ej27, h⟩ := h
  have hj27 : ∀ (x26 : Int32), j27 x26 = some (r', st') → Gm p l e (rmD 4) s m args below meth c D cy ad A L 5 0 0 (MQ below (QG D cy ad A L (some (.int r')) st') args s 0 0 A) 21 [(0, .ref (ad 70)), (1, .int v25)] [.int x26] s23 := by
    intro x26 h
    rw [ej27] at h
    dsimp only at h
    refine g_istore_n (lv' := fun y => [(2, .int y), (0, .ref (ad 70)), (1, .int v25)]) C dX8_bound_21 rfl (by decide) (fun y => rfl) h ?_
    clear h; intro v28 h
    refine g_iconst (v := (0 : Int32)) C dX8_bound_22 (by decide) ?_
    refine g_istore_n (lv' := fun y => [(3, .int y), (2, .int v28), (0, .ref (ad 70)), (1, .int v25)]) C dX8_bound_23 rfl (by decide) (fun y => rfl) h ?_
    clear h; intro v29 h
    refine g_sub (lv2 := [(0, .ref (ad 70)), (1, .int v25), (2, .int v28), (3, .int v29)]) [2, 3, 1, 0] rfl ?_
    refine wlp_X8_bound_24 (N := N) C hr hlk hL ?_ _ _ _ _ h
    · intro v35 s36 h
      refine g_iconst (v := (1 : Int32)) C dX8_bound_67 (by decide) ?_
      refine g_istore_n (lv' := fun y => [(3, .int y), (0, .ref (ad 70)), (1, .int v25), (2, .int v35)]) C dX8_bound_68 rfl (by decide) (fun y => rfl) h ?_
      clear h; intro v37 h
      refine g_sub (lv2 := [(0, .ref (ad 70)), (1, .int v25), (2, .int v35), (3, .int v37)]) [1, 2, 3, 0] rfl ?_
      refine wlp_X8_bound_69 (N := N) C hr hlk hL  _ _ _ _ h
  refine g_if_le (tgt := 20) C dX8_bound_13 (by decide) h ?_ ?_
  · clear h; intro hc13 h
    refine g_iconst (v := (0 : Int32)) C dX8_bound_20 (by decide) ?_
    refine g_sub (lv2 := [(0, .ref (ad 70)), (1, .int v25)]) [1, 0] rfl ?_
    exact hj27 _ h
  · clear h; intro hc13 h
    refine g_iconst (v := (1 : Int32)) C dX8_bound_16 (by decide) ?_
    refine g_goto (tgt := 21) C dX8_bound_17 (by decide) ?_
    refine g_sub (lv2 := [(0, .ref (ad 70)), (1, .int v25)]) [1, 0] rfl ?_
    exact hj27 _ h
-- X8_count
def F_X8_count (N : Nat) (v1 : Int32) (st : St) : Option (Int32 × St) :=
  if v1 = (0 : Int32) then some ((st 70 0), st) else (if v1 = (1 : Int32) then bd (F_X8_layLine N (0 : Int32) st) (fun (r21 : Int32) (s22 : St) => some (r21, s22)) else (if v1 = (2 : Int32) then bd (F_X8_usedOnes N st) (fun (r23 : Int32) (s24 : St) => some (r23, s24)) else (if v1 = (3 : Int32) then bd (F_X8_greedyCost N st) (fun (r25 : Int32) (s26 : St) => some (r25, s26)) else (if v1 = (4 : Int32) then bs (F_X8_layTaken N st) (fun (s27 : St) => some ((s27 70 26), s27)) else (if v1 = (5 : Int32) then bd (F_X8_bound N st) (fun (r28 : Int32) (s29 : St) => some (r28, s29)) else (if v1 = (6 : Int32) then ck (inb (0 : Int32) 2) (lt (fun (x30 : Int32) => ck (inb (1 : Int32) 2) ((if (st 94 (1 : Int32).toNatClampNeg) = 0 then some ((x30 + (0 : Int32)), st) else some ((x30 + (2 : Int32)), st)))) (fun (j31 : Int32 → Option (Int32 × St)) => (if (st 94 (0 : Int32).toNatClampNeg) = 0 then j31 (0 : Int32) else j31 (1 : Int32)))) else (bs (F_X8_in v1 (10 : Int32) (16 : Int32)) (fun (r32 : Int32) => (if r32 = 0 then some ((-2 : Int32), st) else ck (inb (v1 - (10 : Int32)) 7) (some ((st 76 (v1 - (10 : Int32)).toNatClampNeg), st)))))))))))
set_option maxHeartbeats 4000000 in
set_option maxRecDepth 100000 in
theorem ct_X8_count {N : Nat} (hL : ∀ k, prF k = true → k ∈ L) {v1 : Int32} {st st' : St} {r' : Int32} (h : F_X8_count N v1 st = some (r', st')) : Ct l D cy ad A L yX8_count cX8_count 2 (some .int) 6 [.ref (ad 70), .int v1] st (some (.int r')) st' := by
  unfold F_X8_count at h
  refine ct_of (own := RX8) (by decide) rfl (Nat.le_of_ble_eq_true rfl) ?_
  intro p e s m args below meth c C hr hlk
  refine g_sub (lv2 := [(0, .ref (ad 70)), (1, .int v1)]) [0, 1] rfl ?_
  refine g_iload_n C dX8_count_0 rfl 1 rfl ?_
  by_cases hs0 : v1 = (0 : Int32)
  · rw [if_pos hs0] at h
    refine g_swIn (k := (0 : Int32)) (tgt := 44) C dX8_count_1 hs0 (by decide) (by decide) rfl (by decide) ?_
    refine g_aload_n C dX8_count_44 rfl 0 rfl ?_
    refine g_getI C ok8 dX8_count_45 (hL 70 rfl) rfl 0 (by decide) lk_X8_87 rfl ?_
    exact g_iret C hr hlk dX8_count_48 h
  · rw [if_neg hs0] at h
    by_cases hs1 : v1 = (1 : Int32)
    · rw [if_pos hs1] at h
      refine g_swIn (k := (1 : Int32)) (tgt := 49) C dX8_count_1 hs1 (by decide) (by decide) rfl (by decide) ?_
      refine g_aload_n C dX8_count_49 rfl 0 rfl ?_
      refine g_iconst (v := (0 : Int32)) C dX8_count_50 (by decide) ?_
      replace h := bd_some h
      obtain ⟨r21, s22, h1, h⟩ := h
      refine g_cV (As := [.int (0 : Int32)]) (rest := []) (stk2 := [.int r21]) C mf_X8_layLine ok8 rfl lk_X8_111 in_X8_layLine se_X8_layLine dX8_count_51 (hL 70 rfl) rfl rfl rfl rfl ⟨Nat.le_of_ble_eq_true rfl, Nat.le_of_ble_eq_true rfl⟩ (Nat.le_of_ble_eq_true rfl) ⟨Nat.le_refl 0, Nat.le_refl 0⟩ (ct_X8_layLine hL h1) ?_
      exact g_iret C hr hlk dX8_count_54 h
    · rw [if_neg hs1] at h
      by_cases hs2 : v1 = (2 : Int32)
      · rw [if_pos hs2] at h
        refine g_swIn (k := (2 : Int32)) (tgt := 55) C dX8_count_1 hs2 (by decide) (by decide) rfl (by decide) ?_
        refine g_aload_n C dX8_count_55 rfl 0 rfl ?_
        replace h := bd_some h
        obtain ⟨r23, s24, h1, h⟩ := h
        refine g_cV (As := []) (rest := []) (stk2 := [.int r23]) C mf_X8_usedOnes ok8 rfl lk_X8_142 in_X8_usedOnes se_X8_usedOnes dX8_count_56 (hL 70 rfl) rfl rfl rfl rfl ⟨Nat.le_of_ble_eq_true rfl, Nat.le_of_ble_eq_true rfl⟩ (Nat.le_of_ble_eq_true rfl) ⟨Nat.le_refl 0, Nat.le_refl 0⟩ (ct_X8_usedOnes hL h1) ?_
        exact g_iret C hr hlk dX8_count_59 h
      · rw [if_neg hs2] at h
        by_cases hs3 : v1 = (3 : Int32)
        · rw [if_pos hs3] at h
          refine g_swIn (k := (3 : Int32)) (tgt := 60) C dX8_count_1 hs3 (by decide) (by decide) rfl (by decide) ?_
          refine g_aload_n C dX8_count_60 rfl 0 rfl ?_
          replace h := bd_some h
          obtain ⟨r25, s26, h1, h⟩ := h
          refine g_cV (As := []) (rest := []) (stk2 := [.int r25]) C mf_X8_greedyCost ok8 rfl lk_X8_193 in_X8_greedyCost se_X8_greedyCost dX8_count_61 (hL 70 rfl) rfl rfl rfl rfl ⟨Nat.le_of_ble_eq_true rfl, Nat.le_of_ble_eq_true rfl⟩ (Nat.le_of_ble_eq_true rfl) ⟨Nat.le_refl 0, Nat.le_refl 0⟩ (ct_X8_greedyCost hL h1) ?_
          exact g_iret C hr hlk dX8_count_64 h
        · rw [if_neg hs3] at h
          by_cases hs4 : v1 = (4 : Int32)
          · rw [if_pos hs4] at h
            refine g_swIn (k := (4 : Int32)) (tgt := 65) C dX8_count_1 hs4 (by decide) (by decide) rfl (by decide) ?_
            refine g_aload_n C dX8_count_65 rfl 0 rfl ?_
            replace h := bs_some h
            obtain ⟨s27, h1, h⟩ := h
            refine g_cV (As := []) (rest := []) (stk2 := []) C mf_X8_layTaken ok8 rfl lk_X8_190 in_X8_layTaken se_X8_layTaken dX8_count_66 (hL 70 rfl) rfl rfl rfl rfl ⟨Nat.le_of_ble_eq_true rfl, Nat.le_of_ble_eq_true rfl⟩ (Nat.le_of_ble_eq_true rfl) ⟨Nat.le_refl 0, Nat.le_refl 0⟩ (ct_X8_layTaken hL h1) ?_
            refine g_aload_n C dX8_count_69 rfl 0 rfl ?_
            refine g_getI C ok8 dX8_count_70 (hL 70 rfl) rfl 26 (by decide) lk_X8_184 rfl ?_
            exact g_iret C hr hlk dX8_count_73 h
          · rw [if_neg hs4] at h
            by_cases hs5 : v1 = (5 : Int32)
            · rw [if_pos hs5] at h
              refine g_swIn (k := (5 : Int32)) (tgt := 74) C dX8_count_1 hs5 (by decide) (by decide) rfl (by decide) ?_
              refine g_aload_n C dX8_count_74 rfl 0 rfl ?_
              replace h := bd_some h
              obtain ⟨r28, s29, h1, h⟩ := h
              refine g_cV (As := []) (rest := []) (stk2 := [.int r28]) C mf_X8_bound ok8 rfl lk_X8_196 in_X8_bound se_X8_bound dX8_count_75 (hL 70 rfl) rfl rfl rfl rfl ⟨Nat.le_of_ble_eq_true rfl, Nat.le_of_ble_eq_true rfl⟩ (Nat.le_of_ble_eq_true rfl) ⟨Nat.le_refl 0, Nat.le_refl 0⟩ (ct_X8_bound hL h1) ?_
              exact g_iret C hr hlk dX8_count_78 h
            · rw [if_neg hs5] at h
              by_cases hs6 : v1 = (6 : Int32)
              · rw [if_pos hs6] at h
                refine g_swIn (k := (6 : Int32)) (tgt := 79) C dX8_count_1 hs6 (by decide) (by decide) rfl (by decide) ?_
                refine g_aload_n C dX8_count_79 rfl 0 rfl ?_
                refine g_getR (k2 := 94) C ok8 dX8_count_80 (hL 70 rfl) rfl 28 (by decide) lk_X8_80 rfl rfl ?_
                refine g_iconst (v := (0 : Int32)) C dX8_count_83 (by decide) ?_
                refine g_zald C dX8_count_84 (hL 94 rfl) rfl rfl h ?_
                clear h; intro h
                replace h := lt_ex h
                obtain ⟨j31, ej31, h⟩ := h
                have hj31 : ∀ (x30 : Int32), j31 x30 = some (r', st') → Gm p l e (rmD 6) s m args below meth c D cy ad A L 2 0 0 (MQ below (QG D cy ad A L (some (.int r')) st') args s 0 0 A) 93 [(0, .ref (ad 70))] [.int x30] st := by
                  intro x30 h
                  rw [ej31] at h
                  dsimp only at h
                  refine g_aload_n C dX8_count_93 rfl 0 rfl ?_
                  refine g_getR (k2 := 94) C ok8 dX8_count_94 (hL 70 rfl) rfl 28 (by decide) lk_X8_80 rfl rfl ?_
                  refine g_iconst (v := (1 : Int32)) C dX8_count_97 (by decide) ?_
                  refine g_zald C dX8_count_98 (hL 94 rfl) rfl rfl h ?_
                  clear h; intro h
                  refine g_if_eq (tgt := 106) C dX8_count_99 (by decide) h ?_ ?_
                  · clear h; intro hc99 h
                    refine g_iconst (v := (0 : Int32)) C dX8_count_106 (by decide) ?_
                    refine g_iadd C dX8_count_107 ?_
                    exact g_iret C hr hlk dX8_count_108 h
                  · clear h; intro hc99 h
                    refine g_iconst (v := (2 : Int32)) C dX8_count_102 (by decide) ?_
                    refine g_goto (tgt := 107) C dX8_count_103 (by decide) ?_
                    refine g_iadd C dX8_count_107 ?_
                    exact g_iret C hr hlk dX8_count_108 h
                refine g_if_eq (tgt := 92) C dX8_count_85 (by decide) h ?_ ?_
                · clear h; intro hc85 h
                  refine g_iconst (v := (0 : Int32)) C dX8_count_92 (by decide) ?_
                  refine g_sub (lv2 := [(0, .ref (ad 70))]) [0] rfl ?_
                  exact hj31 _ h
                · clear h; intro hc85 h
                  refine g_iconst (v := (1 : Int32)) C dX8_count_88 (by decide) ?_
                  refine g_goto (tgt := 93) C dX8_count_89 (by decide) ?_
                  refine g_sub (lv2 := [(0, .ref (ad 70))]) [0] rfl ?_
                  exact hj31 _ h
              · rw [if_neg hs6] at h
                have hn0 : ¬ v1.toInt = 0 := fun q => hs0 (Int32.toInt_inj.mp (by rw [q]; decide))
                have hn1 : ¬ v1.toInt = 1 := fun q => hs1 (Int32.toInt_inj.mp (by rw [q]; decide))
                have hn2 : ¬ v1.toInt = 2 := fun q => hs2 (Int32.toInt_inj.mp (by rw [q]; decide))
                have hn3 : ¬ v1.toInt = 3 := fun q => hs3 (Int32.toInt_inj.mp (by rw [q]; decide))
                have hn4 : ¬ v1.toInt = 4 := fun q => hs4 (Int32.toInt_inj.mp (by rw [q]; decide))
                have hn5 : ¬ v1.toInt = 5 := fun q => hs5 (Int32.toInt_inj.mp (by rw [q]; decide))
                have hn6 : ¬ v1.toInt = 6 := fun q => hs6 (Int32.toInt_inj.mp (by rw [q]; decide))
                refine g_swOut (tgt := 109) C dX8_count_1 (by omega) (by decide) ?_
                refine g_iload_n C dX8_count_109 rfl 1 rfl ?_
                refine g_bipush (v := (10 : Int32)) C dX8_count_110 (by decide) ?_
                refine g_bipush (v := (16 : Int32)) C dX8_count_112 (by decide) ?_
                replace h := bs_some h
                obtain ⟨r32, h1, h⟩ := h
                refine g_cS (As := [.int v1, .int (10 : Int32), .int (16 : Int32)]) (rest := []) (stk2 := [.int r32]) C mf_X8_in lk_X8_83 sm_X8_in dX8_count_114 rfl rfl rfl ⟨Nat.le_of_ble_eq_true rfl, Nat.le_of_ble_eq_true rfl⟩ (Nat.le_of_ble_eq_true rfl) ⟨Nat.le_refl 0, Nat.le_refl 0⟩ (ct_X8_in hL h1) ?_
                refine g_if_eq (tgt := 132) C dX8_count_117 (by decide) h ?_ ?_
                · clear h; intro hc117 h
                  refine g_bipush (v := (-2 : Int32)) C dX8_count_132 (by decide) ?_
                  exact g_iret C hr hlk dX8_count_134 h
                · clear h; intro hc117 h
                  refine g_aload_n C dX8_count_120 rfl 0 rfl ?_
                  refine g_getR (k2 := 76) C ok8 dX8_count_121 (hL 70 rfl) rfl 6 (by decide) lk_X8_25 rfl rfl ?_
                  refine g_iload_n C dX8_count_124 rfl 1 rfl ?_
                  refine g_bipush (v := (10 : Int32)) C dX8_count_125 (by decide) ?_
                  refine g_isub C dX8_count_127 ?_
                  refine g_iald C dX8_count_128 (hL 76 rfl) rfl rfl h ?_
                  clear h; intro h
                  refine g_goto (tgt := 134) C dX8_count_129 (by decide) ?_
                  exact g_iret C hr hlk dX8_count_134 h
-- X8_image
def lpB_X8_image_19 (v2 : Int32) (K103 : St → Option (Int32 × St)) (self : Int32 → St → Option (Int32 × St)) (v3 : Int32) (st : St) : Option (Int32 × St) :=
  (if (st 70 0) ≤ v3 then K103 st else ck (inb v3 10) (ck (inb (v2 + ((4 : Int32) * v3)) 124) (lt (up st 93 (v2 + ((4 : Int32) * v3)).toNatClampNeg (st 71 v3.toNatClampNeg)) (fun (s24 : St) => ck (inb v3 10) (ck (inb ((v2 + ((4 : Int32) * v3)) + (1 : Int32)) 124) (lt (up s24 93 ((v2 + ((4 : Int32) * v3)) + (1 : Int32)).toNatClampNeg (s24 72 v3.toNatClampNeg)) (fun (s25 : St) => ck (inb v3 10) (ck (inb ((v2 + ((4 : Int32) * v3)) + (2 : Int32)) 124) (lt (up s25 93 ((v2 + ((4 : Int32) * v3)) + (2 : Int32)).toNatClampNeg (s25 73 v3.toNatClampNeg)) (fun (s26 : St) => ck (inb v3 10) (ck (inb ((v2 + ((4 : Int32) * v3)) + (3 : Int32)) 124) (lt (up s26 93 ((v2 + ((4 : Int32) * v3)) + (3 : Int32)).toNatClampNeg (s26 74 v3.toNatClampNeg)) (fun (s27 : St) => lt (v3 + (1 : Int32)) (fun (v28 : Int32) => self v28 s27))))))))))))))
def lp_X8_image_19 (v2 : Int32) (K103 : St → Option (Int32 × St)) : Nat → Int32 → St → Option (Int32 × St) := itf (lpB_X8_image_19 v2 K103) (fun _ _ => none)
def lpB_X8_image_105 (v2 : Int32) (K176 : St → Option (Int32 × St)) (self : Int32 → St → Option (Int32 × St)) (v3 : Int32) (st : St) : Option (Int32 × St) :=
  (if (7 : Int32) ≤ v3 then K176 st else ck (inb v3 7) (ck (inb ((v2 + (40 : Int32)) + v3) 124) (lt (up st 93 ((v2 + (40 : Int32)) + v3).toNatClampNeg (st 75 v3.toNatClampNeg)) (fun (s31 : St) => ck (inb v3 7) (ck (inb ((v2 + (47 : Int32)) + v3) 124) (lt (up s31 93 ((v2 + (47 : Int32)) + v3).toNatClampNeg (s31 76 v3.toNatClampNeg)) (fun (s32 : St) => ck (inb v3 7) ((if (s32 77 v3.toNatClampNeg) = 0 then ck (inb ((v2 + (54 : Int32)) + v3) 124) (lt (up s32 93 ((v2 + (54 : Int32)) + v3).toNatClampNeg (0 : Int32)) (fun (s33 : St) => lt (v3 + (1 : Int32)) (fun (v34 : Int32) => self v34 s33))) else ck (inb ((v2 + (54 : Int32)) + v3) 124) (lt (up s32 93 ((v2 + (54 : Int32)) + v3).toNatClampNeg (1 : Int32)) (fun (s35 : St) => lt (v3 + (1 : Int32)) (fun (v36 : Int32) => self v36 s35))))))))))))
def lp_X8_image_105 (v2 : Int32) (K176 : St → Option (Int32 × St)) : Nat → Int32 → St → Option (Int32 × St) := itf (lpB_X8_image_105 v2 K176) (fun _ _ => none)
def F_X8_image (N : Nat) (v1 : Int32) (st : St) : Option (Int32 × St) :=
  bs (F_X8_in v1 (0 : Int32) (1 : Int32)) (fun (r21 : Int32) => (if r21 = 0 then some ((-2 : Int32), st) else lt ((62 : Int32) * v1) (fun (v22 : Int32) => lt (0 : Int32) (fun (v23 : Int32) => lp_X8_image_19 v22 (fun (s29 : St) => lt (0 : Int32) (fun (v30 : Int32) => lp_X8_image_105 v22 (fun (s37 : St) => ck (inb (v22 + (61 : Int32)) 124) (lt (up s37 93 (v22 + (61 : Int32)).toNatClampNeg (s37 70 0)) (fun (s38 : St) => ck (inb v1 2) (lt (up s38 94 v1.toNatClampNeg (vp_nar .boolean (1 : Int32))) (fun (s39 : St) => some ((1 : Int32), s39)))))) N v30 s29)) N v23 st))))
set_option maxHeartbeats 4000000 in
set_option maxRecDepth 100000 in
theorem wlp_X8_image_19 (C : Cx p s m args c cX8_image RX8 4 D cy ad A L) (hr : meth.sig.returnType = (some .int)) (hlk : meth.locks = false) (hL : ∀ k, prF k = true → k ∈ L) {N : Nat} {v1 : Int32} {v2 : Int32} {r' : Int32} {st' : St} {K103 : St → Option (Int32 × St)} (hK103 : ∀  (st : St), K103 st = some (r', st') → Gm p l e (rmD 2) s m args below meth c D cy ad A L 4 0 0 (MQ below (QG D cy ad A L (some (.int r')) st') args s 0 0 A) 103 [(0, .ref (ad 70)), (1, .int v1), (2, .int v2)] [] st) : ∀ (n : Nat) (v3 : Int32) (st : St), lp_X8_image_19 v2 K103 n v3 st = some (r', st') → Gm p l e (rmD 2) s m args below meth c D cy ad A L 4 0 0 (MQ below (QG D cy ad A L (some (.int r')) st') args s 0 0 A) 19 [(0, .ref (ad 70)), (1, .int v1), (2, .int v2), (3, .int v3)] [] st := by
  intro n
  induction n with
  | zero => intro v3 st h; cases h
  | succ n ih =>
    intro v3 st h
    change lpB_X8_image_19 v2 K103 (lp_X8_image_19 v2 K103 n) v3 st = some _ at h
    unfold lpB_X8_image_19 at h
    refine g_iload_n C dX8_image_19 rfl 3 rfl ?_
    refine g_aload_n C dX8_image_20 rfl 0 rfl ?_
    refine g_getI C ok8 dX8_image_21 (hL 70 rfl) rfl 0 (by decide) lk_X8_87 rfl ?_
    refine g_icmp_ge (tgt := 103) C dX8_image_24 (by decide) h ?_ ?_
    · clear h; intro hc24 h
      refine g_sub (lv2 := [(0, .ref (ad 70)), (1, .int v1), (2, .int v2)]) [0, 1, 2] rfl ?_
      exact hK103 _ h
    · clear h; intro hc24 h
      refine g_aload_n C dX8_image_27 rfl 0 rfl ?_
      refine g_getR (k2 := 93) C ok8 dX8_image_28 (hL 70 rfl) rfl 27 (by decide) lk_X8_77 rfl rfl ?_
      refine g_iload_n C dX8_image_31 rfl 2 rfl ?_
      refine g_iconst (v := (4 : Int32)) C dX8_image_32 (by decide) ?_
      refine g_iload_n C dX8_image_33 rfl 3 rfl ?_
      refine g_imul C dX8_image_34 ?_
      refine g_iadd C dX8_image_35 ?_
      refine g_aload_n C dX8_image_36 rfl 0 rfl ?_
      refine g_getR (k2 := 71) C ok8 dX8_image_37 (hL 70 rfl) rfl 1 (by decide) lk_X8_7 rfl rfl ?_
      refine g_iload_n C dX8_image_40 rfl 3 rfl ?_
      refine g_iald C dX8_image_41 (hL 71 rfl) rfl rfl h ?_
      clear h; intro h
      refine g_iast C dX8_image_42 (hL 93 rfl) rfl rfl h ?_
      clear h; intro s24 h
      refine g_aload_n C dX8_image_43 rfl 0 rfl ?_
      refine g_getR (k2 := 93) C ok8 dX8_image_44 (hL 70 rfl) rfl 27 (by decide) lk_X8_77 rfl rfl ?_
      refine g_iload_n C dX8_image_47 rfl 2 rfl ?_
      refine g_iconst (v := (4 : Int32)) C dX8_image_48 (by decide) ?_
      refine g_iload_n C dX8_image_49 rfl 3 rfl ?_
      refine g_imul C dX8_image_50 ?_
      refine g_iadd C dX8_image_51 ?_
      refine g_iconst (v := (1 : Int32)) C dX8_image_52 (by decide) ?_
      refine g_iadd C dX8_image_53 ?_
      refine g_aload_n C dX8_image_54 rfl 0 rfl ?_
      refine g_getR (k2 := 72) C ok8 dX8_image_55 (hL 70 rfl) rfl 2 (by decide) lk_X8_13 rfl rfl ?_
      refine g_iload_n C dX8_image_58 rfl 3 rfl ?_
      refine g_iald C dX8_image_59 (hL 72 rfl) rfl rfl h ?_
      clear h; intro h
      refine g_iast C dX8_image_60 (hL 93 rfl) rfl rfl h ?_
      clear h; intro s25 h
      refine g_aload_n C dX8_image_61 rfl 0 rfl ?_
      refine g_getR (k2 := 93) C ok8 dX8_image_62 (hL 70 rfl) rfl 27 (by decide) lk_X8_77 rfl rfl ?_
      refine g_iload_n C dX8_image_65 rfl 2 rfl ?_
      refine g_iconst (v := (4 : Int32)) C dX8_image_66 (by decide) ?_
      refine g_iload_n C dX8_image_67 rfl 3 rfl ?_
      refine g_imul C dX8_image_68 ?_
      refine g_iadd C dX8_image_69 ?_
      refine g_iconst (v := (2 : Int32)) C dX8_image_70 (by decide) ?_
      refine g_iadd C dX8_image_71 ?_
      refine g_aload_n C dX8_image_72 rfl 0 rfl ?_
      refine g_getR (k2 := 73) C ok8 dX8_image_73 (hL 70 rfl) rfl 3 (by decide) lk_X8_16 rfl rfl ?_
      refine g_iload_n C dX8_image_76 rfl 3 rfl ?_
      refine g_iald C dX8_image_77 (hL 73 rfl) rfl rfl h ?_
      clear h; intro h
      refine g_iast C dX8_image_78 (hL 93 rfl) rfl rfl h ?_
      clear h; intro s26 h
      refine g_aload_n C dX8_image_79 rfl 0 rfl ?_
      refine g_getR (k2 := 93) C ok8 dX8_image_80 (hL 70 rfl) rfl 27 (by decide) lk_X8_77 rfl rfl ?_
      refine g_iload_n C dX8_image_83 rfl 2 rfl ?_
      refine g_iconst (v := (4 : Int32)) C dX8_image_84 (by decide) ?_
      refine g_iload_n C dX8_image_85 rfl 3 rfl ?_
      refine g_imul C dX8_image_86 ?_
      refine g_iadd C dX8_image_87 ?_
      refine g_iconst (v := (3 : Int32)) C dX8_image_88 (by decide) ?_
      refine g_iadd C dX8_image_89 ?_
      refine g_aload_n C dX8_image_90 rfl 0 rfl ?_
      refine g_getR (k2 := 74) C ok8 dX8_image_91 (hL 70 rfl) rfl 4 (by decide) lk_X8_19 rfl rfl ?_
      refine g_iload_n C dX8_image_94 rfl 3 rfl ?_
      refine g_iald C dX8_image_95 (hL 74 rfl) rfl rfl h ?_
      clear h; intro h
      refine g_iast C dX8_image_96 (hL 93 rfl) rfl rfl h ?_
      clear h; intro s27 h
      refine g_iinc (lv' := fun y => [(3, .int y), (0, .ref (ad 70)), (1, .int v1), (2, .int v2)]) C dX8_image_97 3 rfl rfl (by decide) (fun y => rfl) h ?_
      clear h; intro v28 h
      refine g_goto (tgt := 19) C dX8_image_100 (by decide) ?_
      refine g_sub (lv2 := [(0, .ref (ad 70)), (1, .int v1), (2, .int v2), (3, .int v28)]) [1, 2, 3, 0] rfl ?_
      exact ih _ _ h
set_option maxHeartbeats 4000000 in
set_option maxRecDepth 100000 in
theorem wlp_X8_image_105 (C : Cx p s m args c cX8_image RX8 4 D cy ad A L) (hr : meth.sig.returnType = (some .int)) (hlk : meth.locks = false) (hL : ∀ k, prF k = true → k ∈ L) {N : Nat} {v1 : Int32} {v2 : Int32} {r' : Int32} {st' : St} {K176 : St → Option (Int32 × St)} (hK176 : ∀  (st : St), K176 st = some (r', st') → Gm p l e (rmD 2) s m args below meth c D cy ad A L 4 0 0 (MQ below (QG D cy ad A L (some (.int r')) st') args s 0 0 A) 176 [(0, .ref (ad 70)), (1, .int v1), (2, .int v2)] [] st) : ∀ (n : Nat) (v3 : Int32) (st : St), lp_X8_image_105 v2 K176 n v3 st = some (r', st') → Gm p l e (rmD 2) s m args below meth c D cy ad A L 4 0 0 (MQ below (QG D cy ad A L (some (.int r')) st') args s 0 0 A) 105 [(0, .ref (ad 70)), (1, .int v1), (2, .int v2), (3, .int v3)] [] st := by
  intro n
  induction n with
  | zero => intro v3 st h; cases h
  | succ n ih =>
    intro v3 st h
    change lpB_X8_image_105 v2 K176 (lp_X8_image_105 v2 K176 n) v3 st = some _ at h
    unfold lpB_X8_image_105 at h
    refine g_iload_n C dX8_image_105 rfl 3 rfl ?_
    refine g_bipush (v := (7 : Int32)) C dX8_image_106 (by decide) ?_
    refine g_icmp_ge (tgt := 176) C dX8_image_108 (by decide) h ?_ ?_
    · clear h; intro hc108 h
      refine g_sub (lv2 := [(0, .ref (ad 70)), (1, .int v1), (2, .int v2)]) [0, 1, 2] rfl ?_
      exact hK176 _ h
    · clear h; intro hc108 h
      refine g_aload_n C dX8_image_111 rfl 0 rfl ?_
      refine g_getR (k2 := 93) C ok8 dX8_image_112 (hL 70 rfl) rfl 27 (by decide) lk_X8_77 rfl rfl ?_
      refine g_iload_n C dX8_image_115 rfl 2 rfl ?_
      refine g_bipush (v := (40 : Int32)) C dX8_image_116 (by decide) ?_
      refine g_iadd C dX8_image_118 ?_
      refine g_iload_n C dX8_image_119 rfl 3 rfl ?_
      refine g_iadd C dX8_image_120 ?_
      refine g_aload_n C dX8_image_121 rfl 0 rfl ?_
      refine g_getR (k2 := 75) C ok8 dX8_image_122 (hL 70 rfl) rfl 5 (by decide) lk_X8_22 rfl rfl ?_
      refine g_iload_n C dX8_image_125 rfl 3 rfl ?_
      refine g_iald C dX8_image_126 (hL 75 rfl) rfl rfl h ?_
      clear h; intro h
      refine g_iast C dX8_image_127 (hL 93 rfl) rfl rfl h ?_
      clear h; intro s31 h
      refine g_aload_n C dX8_image_128 rfl 0 rfl ?_
      refine g_getR (k2 := 93) C ok8 dX8_image_129 (hL 70 rfl) rfl 27 (by decide) lk_X8_77 rfl rfl ?_
      refine g_iload_n C dX8_image_132 rfl 2 rfl ?_
      refine g_bipush (v := (47 : Int32)) C dX8_image_133 (by decide) ?_
      refine g_iadd C dX8_image_135 ?_
      refine g_iload_n C dX8_image_136 rfl 3 rfl ?_
      refine g_iadd C dX8_image_137 ?_
      refine g_aload_n C dX8_image_138 rfl 0 rfl ?_
      refine g_getR (k2 := 76) C ok8 dX8_image_139 (hL 70 rfl) rfl 6 (by decide) lk_X8_25 rfl rfl ?_
      refine g_iload_n C dX8_image_142 rfl 3 rfl ?_
      refine g_iald C dX8_image_143 (hL 76 rfl) rfl rfl h ?_
      clear h; intro h
      refine g_iast C dX8_image_144 (hL 93 rfl) rfl rfl h ?_
      clear h; intro s32 h
      refine g_aload_n C dX8_image_145 rfl 0 rfl ?_
      refine g_getR (k2 := 93) C ok8 dX8_image_146 (hL 70 rfl) rfl 27 (by decide) lk_X8_77 rfl rfl ?_
      refine g_iload_n C dX8_image_149 rfl 2 rfl ?_
      refine g_bipush (v := (54 : Int32)) C dX8_image_150 (by decide) ?_
      refine g_iadd C dX8_image_152 ?_
      refine g_iload_n C dX8_image_153 rfl 3 rfl ?_
      refine g_iadd C dX8_image_154 ?_
      refine g_aload_n C dX8_image_155 rfl 0 rfl ?_
      refine g_getR (k2 := 77) C ok8 dX8_image_156 (hL 70 rfl) rfl 7 (by decide) lk_X8_28 rfl rfl ?_
      refine g_iload_n C dX8_image_159 rfl 3 rfl ?_
      refine g_zald C dX8_image_160 (hL 77 rfl) rfl rfl h ?_
      clear h; intro h
      refine g_if_eq (tgt := 168) C dX8_image_161 (by decide) h ?_ ?_
      · clear h; intro hc161 h
        refine g_iconst (v := (0 : Int32)) C dX8_image_168 (by decide) ?_
        refine g_iast C dX8_image_169 (hL 93 rfl) rfl rfl h ?_
        clear h; intro s33 h
        refine g_iinc (lv' := fun y => [(3, .int y), (0, .ref (ad 70)), (1, .int v1), (2, .int v2)]) C dX8_image_170 3 rfl rfl (by decide) (fun y => rfl) h ?_
        clear h; intro v34 h
        refine g_goto (tgt := 105) C dX8_image_173 (by decide) ?_
        refine g_sub (lv2 := [(0, .ref (ad 70)), (1, .int v1), (2, .int v2), (3, .int v34)]) [1, 2, 3, 0] rfl ?_
        exact ih _ _ h
      · clear h; intro hc161 h
        refine g_iconst (v := (1 : Int32)) C dX8_image_164 (by decide) ?_
        refine g_goto (tgt := 169) C dX8_image_165 (by decide) ?_
        refine g_iast C dX8_image_169 (hL 93 rfl) rfl rfl h ?_
        clear h; intro s35 h
        refine g_iinc (lv' := fun y => [(3, .int y), (0, .ref (ad 70)), (1, .int v1), (2, .int v2)]) C dX8_image_170 3 rfl rfl (by decide) (fun y => rfl) h ?_
        clear h; intro v36 h
        refine g_goto (tgt := 105) C dX8_image_173 (by decide) ?_
        refine g_sub (lv2 := [(0, .ref (ad 70)), (1, .int v1), (2, .int v2), (3, .int v36)]) [1, 2, 3, 0] rfl ?_
        exact ih _ _ h
set_option maxHeartbeats 4000000 in
set_option maxRecDepth 100000 in
theorem ct_X8_image {N : Nat} (hL : ∀ k, prF k = true → k ∈ L) {v1 : Int32} {st st' : St} {r' : Int32} (h : F_X8_image N v1 st = some (r', st')) : Ct l D cy ad A L yX8_image cX8_image 4 (some .int) 2 [.ref (ad 70), .int v1] st (some (.int r')) st' := by
  unfold F_X8_image at h
  refine ct_of (own := RX8) (by decide) rfl (Nat.le_of_ble_eq_true rfl) ?_
  intro p e s m args below meth c C hr hlk
  refine g_sub (lv2 := [(0, .ref (ad 70)), (1, .int v1)]) [0, 1] rfl ?_
  refine g_iload_n C dX8_image_0 rfl 1 rfl ?_
  refine g_iconst (v := (0 : Int32)) C dX8_image_1 (by decide) ?_
  refine g_iconst (v := (1 : Int32)) C dX8_image_2 (by decide) ?_
  replace h := bs_some h
  obtain ⟨r21, h1, h⟩ := h
  refine g_cS (As := [.int v1, .int (0 : Int32), .int (1 : Int32)]) (rest := []) (stk2 := [.int r21]) C mf_X8_in lk_X8_83 sm_X8_in dX8_image_3 rfl rfl rfl ⟨Nat.le_of_ble_eq_true rfl, Nat.le_of_ble_eq_true rfl⟩ (Nat.le_of_ble_eq_true rfl) ⟨Nat.le_refl 0, Nat.le_refl 0⟩ (ct_X8_in hL h1) ?_
  refine g_if_ne (tgt := 12) C dX8_image_6 (by decide) h ?_ ?_
  · clear h; intro hc6 h
    refine g_bipush (v := (62 : Int32)) C dX8_image_12 (by decide) ?_
    refine g_iload_n C dX8_image_14 rfl 1 rfl ?_
    refine g_imul C dX8_image_15 ?_
    refine g_istore_n (lv' := fun y => [(2, .int y), (0, .ref (ad 70)), (1, .int v1)]) C dX8_image_16 rfl (by decide) (fun y => rfl) h ?_
    clear h; intro v22 h
    refine g_iconst (v := (0 : Int32)) C dX8_image_17 (by decide) ?_
    refine g_istore_n (lv' := fun y => [(3, .int y), (2, .int v22), (0, .ref (ad 70)), (1, .int v1)]) C dX8_image_18 rfl (by decide) (fun y => rfl) h ?_
    clear h; intro v23 h
    refine g_sub (lv2 := [(0, .ref (ad 70)), (1, .int v1), (2, .int v22), (3, .int v23)]) [2, 3, 1, 0] rfl ?_
    refine wlp_X8_image_19 (N := N) C hr hlk hL ?_ _ _ _ h
    · intro s29 h
      refine g_iconst (v := (0 : Int32)) C dX8_image_103 (by decide) ?_
      refine g_istore_n (lv' := fun y => [(3, .int y), (0, .ref (ad 70)), (1, .int v1), (2, .int v22)]) C dX8_image_104 rfl (by decide) (fun y => rfl) h ?_
      clear h; intro v30 h
      refine g_sub (lv2 := [(0, .ref (ad 70)), (1, .int v1), (2, .int v22), (3, .int v30)]) [1, 2, 3, 0] rfl ?_
      refine wlp_X8_image_105 (N := N) C hr hlk hL ?_ _ _ _ h
      · intro s37 h
        refine g_aload_n C dX8_image_176 rfl 0 rfl ?_
        refine g_getR (k2 := 93) C ok8 dX8_image_177 (hL 70 rfl) rfl 27 (by decide) lk_X8_77 rfl rfl ?_
        refine g_iload_n C dX8_image_180 rfl 2 rfl ?_
        refine g_bipush (v := (61 : Int32)) C dX8_image_181 (by decide) ?_
        refine g_iadd C dX8_image_183 ?_
        refine g_aload_n C dX8_image_184 rfl 0 rfl ?_
        refine g_getI C ok8 dX8_image_185 (hL 70 rfl) rfl 0 (by decide) lk_X8_87 rfl ?_
        refine g_iast C dX8_image_188 (hL 93 rfl) rfl rfl h ?_
        clear h; intro s38 h
        refine g_aload_n C dX8_image_189 rfl 0 rfl ?_
        refine g_getR (k2 := 94) C ok8 dX8_image_190 (hL 70 rfl) rfl 28 (by decide) lk_X8_80 rfl rfl ?_
        refine g_iload_n C dX8_image_193 rfl 1 rfl ?_
        refine g_iconst (v := (1 : Int32)) C dX8_image_194 (by decide) ?_
        refine g_zast C dX8_image_195 (hL 94 rfl) rfl rfl h ?_
        clear h; intro s39 h
        refine g_iconst (v := (1 : Int32)) C dX8_image_196 (by decide) ?_
        exact g_iret C hr hlk dX8_image_197 h
  · clear h; intro hc6 h
    refine g_bipush (v := (-2 : Int32)) C dX8_image_9 (by decide) ?_
    exact g_iret C hr hlk dX8_image_11 h
-- X8_restore
def lpB_X8_restore_44 (v2 : Int32) (K128 : St → Option (Int32 × St)) (self : Int32 → St → Option (Int32 × St)) (v3 : Int32) (st : St) : Option (Int32 × St) :=
  (if (st 70 0) ≤ v3 then K128 st else ck (inb (v2 + ((4 : Int32) * v3)) 124) (ck (inb v3 10) (lt (up st 71 v3.toNatClampNeg (st 93 (v2 + ((4 : Int32) * v3)).toNatClampNeg)) (fun (s25 : St) => ck (inb ((v2 + ((4 : Int32) * v3)) + (1 : Int32)) 124) (ck (inb v3 10) (lt (up s25 72 v3.toNatClampNeg (s25 93 ((v2 + ((4 : Int32) * v3)) + (1 : Int32)).toNatClampNeg)) (fun (s26 : St) => ck (inb ((v2 + ((4 : Int32) * v3)) + (2 : Int32)) 124) (ck (inb v3 10) (lt (up s26 73 v3.toNatClampNeg (s26 93 ((v2 + ((4 : Int32) * v3)) + (2 : Int32)).toNatClampNeg)) (fun (s27 : St) => ck (inb ((v2 + ((4 : Int32) * v3)) + (3 : Int32)) 124) (ck (inb v3 10) (lt (up s27 74 v3.toNatClampNeg (s27 93 ((v2 + ((4 : Int32) * v3)) + (3 : Int32)).toNatClampNeg)) (fun (s28 : St) => lt (v3 + (1 : Int32)) (fun (v29 : Int32) => self v29 s28))))))))))))))
def lp_X8_restore_44 (v2 : Int32) (K128 : St → Option (Int32 × St)) : Nat → Int32 → St → Option (Int32 × St) := itf (lpB_X8_restore_44 v2 K128) (fun _ _ => none)
def lpB_X8_restore_130 (v2 : Int32) (K202 : St → Option (Int32 × St)) (self : Int32 → St → Option (Int32 × St)) (v3 : Int32) (st : St) : Option (Int32 × St) :=
  (if (7 : Int32) ≤ v3 then K202 st else ck (inb ((v2 + (40 : Int32)) + v3) 124) (ck (inb v3 7) (lt (up st 75 v3.toNatClampNeg (st 93 ((v2 + (40 : Int32)) + v3).toNatClampNeg)) (fun (s32 : St) => ck (inb ((v2 + (47 : Int32)) + v3) 124) (ck (inb v3 7) (lt (up s32 76 v3.toNatClampNeg (s32 93 ((v2 + (47 : Int32)) + v3).toNatClampNeg)) (fun (s33 : St) => ck (inb ((v2 + (54 : Int32)) + v3) 124) ((if (s33 93 ((v2 + (54 : Int32)) + v3).toNatClampNeg) = (1 : Int32) then ck (inb v3 7) (lt (up s33 77 v3.toNatClampNeg (vp_nar .boolean (1 : Int32))) (fun (s36 : St) => lt (v3 + (1 : Int32)) (fun (v37 : Int32) => self v37 s36))) else ck (inb v3 7) (lt (up s33 77 v3.toNatClampNeg (vp_nar .boolean (0 : Int32))) (fun (s34 : St) => lt (v3 + (1 : Int32)) (fun (v35 : Int32) => self v35 s34))))))))))))
def lp_X8_restore_130 (v2 : Int32) (K202 : St → Option (Int32 × St)) : Nat → Int32 → St → Option (Int32 × St) := itf (lpB_X8_restore_130 v2 K202) (fun _ _ => none)
def F_X8_restore (N : Nat) (v1 : Int32) (st : St) : Option (Int32 × St) :=
  bs (F_X8_in v1 (0 : Int32) (1 : Int32)) (fun (r21 : Int32) => (if r21 = 0 then some ((-2 : Int32), st) else ck (inb v1 2) ((if (st 94 v1.toNatClampNeg) = 0 then some ((-3 : Int32), st) else lt ((62 : Int32) * v1) (fun (v22 : Int32) => ck (inb (v22 + (61 : Int32)) 124) (lt (up st 70 0 (st 93 (v22 + (61 : Int32)).toNatClampNeg)) (fun (s23 : St) => lt (0 : Int32) (fun (v24 : Int32) => lp_X8_restore_44 v22 (fun (s30 : St) => lt (0 : Int32) (fun (v31 : Int32) => lp_X8_restore_130 v22 (fun (s38 : St) => bs (F_X8_change s38) (fun (s39 : St) => some ((1 : Int32), s39))) N v31 s30)) N v24 s23))))))))
set_option maxHeartbeats 4000000 in
set_option maxRecDepth 100000 in
theorem wlp_X8_restore_44 (C : Cx p s m args c cX8_restore RX8 4 D cy ad A L) (hr : meth.sig.returnType = (some .int)) (hlk : meth.locks = false) (hL : ∀ k, prF k = true → k ∈ L) {N : Nat} {v2 : Int32} {r' : Int32} {st' : St} {K128 : St → Option (Int32 × St)} (hK128 : ∀  (st : St), K128 st = some (r', st') → Gm p l e (rmD 2) s m args below meth c D cy ad A L 4 0 0 (MQ below (QG D cy ad A L (some (.int r')) st') args s 0 0 A) 128 [(0, .ref (ad 70)), (2, .int v2)] [] st) : ∀ (n : Nat) (v3 : Int32) (st : St), lp_X8_restore_44 v2 K128 n v3 st = some (r', st') → Gm p l e (rmD 2) s m args below meth c D cy ad A L 4 0 0 (MQ below (QG D cy ad A L (some (.int r')) st') args s 0 0 A) 44 [(0, .ref (ad 70)), (2, .int v2), (3, .int v3)] [] st := by
  intro n
  induction n with
  | zero => intro v3 st h; cases h
  | succ n ih =>
    intro v3 st h
    change lpB_X8_restore_44 v2 K128 (lp_X8_restore_44 v2 K128 n) v3 st = some _ at h
    unfold lpB_X8_restore_44 at h
    refine g_iload_n C dX8_restore_44 rfl 2 rfl ?_
    refine g_aload_n C dX8_restore_45 rfl 0 rfl ?_
    refine g_getI C ok8 dX8_restore_46 (hL 70 rfl) rfl 0 (by decide) lk_X8_87 rfl ?_
    refine g_icmp_ge (tgt := 128) C dX8_restore_49 (by decide) h ?_ ?_
    · clear h; intro hc49 h
      refine g_sub (lv2 := [(0, .ref (ad 70)), (2, .int v2)]) [0, 1] rfl ?_
      exact hK128 _ h
    · clear h; intro hc49 h
      refine g_aload_n C dX8_restore_52 rfl 0 rfl ?_
      refine g_getR (k2 := 71) C ok8 dX8_restore_53 (hL 70 rfl) rfl 1 (by decide) lk_X8_7 rfl rfl ?_
      refine g_iload_n C dX8_restore_56 rfl 2 rfl ?_
      refine g_aload_n C dX8_restore_57 rfl 0 rfl ?_
      refine g_getR (k2 := 93) C ok8 dX8_restore_58 (hL 70 rfl) rfl 27 (by decide) lk_X8_77 rfl rfl ?_
      refine g_iload_n C dX8_restore_61 rfl 1 rfl ?_
      refine g_iconst (v := (4 : Int32)) C dX8_restore_62 (by decide) ?_
      refine g_iload_n C dX8_restore_63 rfl 2 rfl ?_
      refine g_imul C dX8_restore_64 ?_
      refine g_iadd C dX8_restore_65 ?_
      refine g_iald C dX8_restore_66 (hL 93 rfl) rfl rfl h ?_
      clear h; intro h
      refine g_iast C dX8_restore_67 (hL 71 rfl) rfl rfl h ?_
      clear h; intro s25 h
      refine g_aload_n C dX8_restore_68 rfl 0 rfl ?_
      refine g_getR (k2 := 72) C ok8 dX8_restore_69 (hL 70 rfl) rfl 2 (by decide) lk_X8_13 rfl rfl ?_
      refine g_iload_n C dX8_restore_72 rfl 2 rfl ?_
      refine g_aload_n C dX8_restore_73 rfl 0 rfl ?_
      refine g_getR (k2 := 93) C ok8 dX8_restore_74 (hL 70 rfl) rfl 27 (by decide) lk_X8_77 rfl rfl ?_
      refine g_iload_n C dX8_restore_77 rfl 1 rfl ?_
      refine g_iconst (v := (4 : Int32)) C dX8_restore_78 (by decide) ?_
      refine g_iload_n C dX8_restore_79 rfl 2 rfl ?_
      refine g_imul C dX8_restore_80 ?_
      refine g_iadd C dX8_restore_81 ?_
      refine g_iconst (v := (1 : Int32)) C dX8_restore_82 (by decide) ?_
      refine g_iadd C dX8_restore_83 ?_
      refine g_iald C dX8_restore_84 (hL 93 rfl) rfl rfl h ?_
      clear h; intro h
      refine g_iast C dX8_restore_85 (hL 72 rfl) rfl rfl h ?_
      clear h; intro s26 h
      refine g_aload_n C dX8_restore_86 rfl 0 rfl ?_
      refine g_getR (k2 := 73) C ok8 dX8_restore_87 (hL 70 rfl) rfl 3 (by decide) lk_X8_16 rfl rfl ?_
      refine g_iload_n C dX8_restore_90 rfl 2 rfl ?_
      refine g_aload_n C dX8_restore_91 rfl 0 rfl ?_
      refine g_getR (k2 := 93) C ok8 dX8_restore_92 (hL 70 rfl) rfl 27 (by decide) lk_X8_77 rfl rfl ?_
      refine g_iload_n C dX8_restore_95 rfl 1 rfl ?_
      refine g_iconst (v := (4 : Int32)) C dX8_restore_96 (by decide) ?_
      refine g_iload_n C dX8_restore_97 rfl 2 rfl ?_
      refine g_imul C dX8_restore_98 ?_
      refine g_iadd C dX8_restore_99 ?_
      refine g_iconst (v := (2 : Int32)) C dX8_restore_100 (by decide) ?_
      refine g_iadd C dX8_restore_101 ?_
      refine g_iald C dX8_restore_102 (hL 93 rfl) rfl rfl h ?_
      clear h; intro h
      refine g_iast C dX8_restore_103 (hL 73 rfl) rfl rfl h ?_
      clear h; intro s27 h
      refine g_aload_n C dX8_restore_104 rfl 0 rfl ?_
      refine g_getR (k2 := 74) C ok8 dX8_restore_105 (hL 70 rfl) rfl 4 (by decide) lk_X8_19 rfl rfl ?_
      refine g_iload_n C dX8_restore_108 rfl 2 rfl ?_
      refine g_aload_n C dX8_restore_109 rfl 0 rfl ?_
      refine g_getR (k2 := 93) C ok8 dX8_restore_110 (hL 70 rfl) rfl 27 (by decide) lk_X8_77 rfl rfl ?_
      refine g_iload_n C dX8_restore_113 rfl 1 rfl ?_
      refine g_iconst (v := (4 : Int32)) C dX8_restore_114 (by decide) ?_
      refine g_iload_n C dX8_restore_115 rfl 2 rfl ?_
      refine g_imul C dX8_restore_116 ?_
      refine g_iadd C dX8_restore_117 ?_
      refine g_iconst (v := (3 : Int32)) C dX8_restore_118 (by decide) ?_
      refine g_iadd C dX8_restore_119 ?_
      refine g_iald C dX8_restore_120 (hL 93 rfl) rfl rfl h ?_
      clear h; intro h
      refine g_iast C dX8_restore_121 (hL 74 rfl) rfl rfl h ?_
      clear h; intro s28 h
      refine g_iinc (lv' := fun y => [(3, .int y), (0, .ref (ad 70)), (2, .int v2)]) C dX8_restore_122 2 rfl rfl (by decide) (fun y => rfl) h ?_
      clear h; intro v29 h
      refine g_goto (tgt := 44) C dX8_restore_125 (by decide) ?_
      refine g_sub (lv2 := [(0, .ref (ad 70)), (2, .int v2), (3, .int v29)]) [1, 2, 0] rfl ?_
      exact ih _ _ h
set_option maxHeartbeats 4000000 in
set_option maxRecDepth 100000 in
theorem wlp_X8_restore_130 (C : Cx p s m args c cX8_restore RX8 4 D cy ad A L) (hr : meth.sig.returnType = (some .int)) (hlk : meth.locks = false) (hL : ∀ k, prF k = true → k ∈ L) {N : Nat} {v2 : Int32} {r' : Int32} {st' : St} {K202 : St → Option (Int32 × St)} (hK202 : ∀  (st : St), K202 st = some (r', st') → Gm p l e (rmD 2) s m args below meth c D cy ad A L 4 0 0 (MQ below (QG D cy ad A L (some (.int r')) st') args s 0 0 A) 202 [(0, .ref (ad 70))] [] st) : ∀ (n : Nat) (v3 : Int32) (st : St), lp_X8_restore_130 v2 K202 n v3 st = some (r', st') → Gm p l e (rmD 2) s m args below meth c D cy ad A L 4 0 0 (MQ below (QG D cy ad A L (some (.int r')) st') args s 0 0 A) 130 [(0, .ref (ad 70)), (2, .int v2), (3, .int v3)] [] st := by
  intro n
  induction n with
  | zero => intro v3 st h; cases h
  | succ n ih =>
    intro v3 st h
    change lpB_X8_restore_130 v2 K202 (lp_X8_restore_130 v2 K202 n) v3 st = some _ at h
    unfold lpB_X8_restore_130 at h
    refine g_iload_n C dX8_restore_130 rfl 2 rfl ?_
    refine g_bipush (v := (7 : Int32)) C dX8_restore_131 (by decide) ?_
    refine g_icmp_ge (tgt := 202) C dX8_restore_133 (by decide) h ?_ ?_
    · clear h; intro hc133 h
      refine g_sub (lv2 := [(0, .ref (ad 70))]) [0] rfl ?_
      exact hK202 _ h
    · clear h; intro hc133 h
      refine g_aload_n C dX8_restore_136 rfl 0 rfl ?_
      refine g_getR (k2 := 75) C ok8 dX8_restore_137 (hL 70 rfl) rfl 5 (by decide) lk_X8_22 rfl rfl ?_
      refine g_iload_n C dX8_restore_140 rfl 2 rfl ?_
      refine g_aload_n C dX8_restore_141 rfl 0 rfl ?_
      refine g_getR (k2 := 93) C ok8 dX8_restore_142 (hL 70 rfl) rfl 27 (by decide) lk_X8_77 rfl rfl ?_
      refine g_iload_n C dX8_restore_145 rfl 1 rfl ?_
      refine g_bipush (v := (40 : Int32)) C dX8_restore_146 (by decide) ?_
      refine g_iadd C dX8_restore_148 ?_
      refine g_iload_n C dX8_restore_149 rfl 2 rfl ?_
      refine g_iadd C dX8_restore_150 ?_
      refine g_iald C dX8_restore_151 (hL 93 rfl) rfl rfl h ?_
      clear h; intro h
      refine g_iast C dX8_restore_152 (hL 75 rfl) rfl rfl h ?_
      clear h; intro s32 h
      refine g_aload_n C dX8_restore_153 rfl 0 rfl ?_
      refine g_getR (k2 := 76) C ok8 dX8_restore_154 (hL 70 rfl) rfl 6 (by decide) lk_X8_25 rfl rfl ?_
      refine g_iload_n C dX8_restore_157 rfl 2 rfl ?_
      refine g_aload_n C dX8_restore_158 rfl 0 rfl ?_
      refine g_getR (k2 := 93) C ok8 dX8_restore_159 (hL 70 rfl) rfl 27 (by decide) lk_X8_77 rfl rfl ?_
      refine g_iload_n C dX8_restore_162 rfl 1 rfl ?_
      refine g_bipush (v := (47 : Int32)) C dX8_restore_163 (by decide) ?_
      refine g_iadd C dX8_restore_165 ?_
      refine g_iload_n C dX8_restore_166 rfl 2 rfl ?_
      refine g_iadd C dX8_restore_167 ?_
      refine g_iald C dX8_restore_168 (hL 93 rfl) rfl rfl h ?_
      clear h; intro h
      refine g_iast C dX8_restore_169 (hL 76 rfl) rfl rfl h ?_
      clear h; intro s33 h
      refine g_aload_n C dX8_restore_170 rfl 0 rfl ?_
      refine g_getR (k2 := 77) C ok8 dX8_restore_171 (hL 70 rfl) rfl 7 (by decide) lk_X8_28 rfl rfl ?_
      refine g_iload_n C dX8_restore_174 rfl 2 rfl ?_
      refine g_aload_n C dX8_restore_175 rfl 0 rfl ?_
      refine g_getR (k2 := 93) C ok8 dX8_restore_176 (hL 70 rfl) rfl 27 (by decide) lk_X8_77 rfl rfl ?_
      refine g_iload_n C dX8_restore_179 rfl 1 rfl ?_
      refine g_bipush (v := (54 : Int32)) C dX8_restore_180 (by decide) ?_
      refine g_iadd C dX8_restore_182 ?_
      refine g_iload_n C dX8_restore_183 rfl 2 rfl ?_
      refine g_iadd C dX8_restore_184 ?_
      refine g_iald C dX8_restore_185 (hL 93 rfl) rfl rfl h ?_
      clear h; intro h
      refine g_iconst (v := (1 : Int32)) C dX8_restore_186 (by decide) ?_
      refine g_icmp_ne (tgt := 194) C dX8_restore_187 (by decide) h ?_ ?_
      · clear h; intro hc187 h
        refine g_iconst (v := (0 : Int32)) C dX8_restore_194 (by decide) ?_
        refine g_zast C dX8_restore_195 (hL 77 rfl) rfl rfl h ?_
        clear h; intro s34 h
        refine g_iinc (lv' := fun y => [(3, .int y), (0, .ref (ad 70)), (2, .int v2)]) C dX8_restore_196 2 rfl rfl (by decide) (fun y => rfl) h ?_
        clear h; intro v35 h
        refine g_goto (tgt := 130) C dX8_restore_199 (by decide) ?_
        refine g_sub (lv2 := [(0, .ref (ad 70)), (2, .int v2), (3, .int v35)]) [1, 2, 0] rfl ?_
        exact ih _ _ h
      · clear h; intro hc187 h
        refine g_iconst (v := (1 : Int32)) C dX8_restore_190 (by decide) ?_
        refine g_goto (tgt := 195) C dX8_restore_191 (by decide) ?_
        refine g_zast C dX8_restore_195 (hL 77 rfl) rfl rfl h ?_
        clear h; intro s36 h
        refine g_iinc (lv' := fun y => [(3, .int y), (0, .ref (ad 70)), (2, .int v2)]) C dX8_restore_196 2 rfl rfl (by decide) (fun y => rfl) h ?_
        clear h; intro v37 h
        refine g_goto (tgt := 130) C dX8_restore_199 (by decide) ?_
        refine g_sub (lv2 := [(0, .ref (ad 70)), (2, .int v2), (3, .int v37)]) [1, 2, 0] rfl ?_
        exact ih _ _ h
set_option maxHeartbeats 4000000 in
set_option maxRecDepth 100000 in
theorem ct_X8_restore {N : Nat} (hL : ∀ k, prF k = true → k ∈ L) {v1 : Int32} {st st' : St} {r' : Int32} (h : F_X8_restore N v1 st = some (r', st')) : Ct l D cy ad A L yX8_restore cX8_restore 4 (some .int) 2 [.ref (ad 70), .int v1] st (some (.int r')) st' := by
  unfold F_X8_restore at h
  refine ct_of (own := RX8) (by decide) rfl (Nat.le_of_ble_eq_true rfl) ?_
  intro p e s m args below meth c C hr hlk
  refine g_sub (lv2 := [(0, .ref (ad 70)), (1, .int v1)]) [0, 1] rfl ?_
  refine g_iload_n C dX8_restore_0 rfl 1 rfl ?_
  refine g_iconst (v := (0 : Int32)) C dX8_restore_1 (by decide) ?_
  refine g_iconst (v := (1 : Int32)) C dX8_restore_2 (by decide) ?_
  replace h := bs_some h
  obtain ⟨r21, h1, h⟩ := h
  refine g_cS (As := [.int v1, .int (0 : Int32), .int (1 : Int32)]) (rest := []) (stk2 := [.int r21]) C mf_X8_in lk_X8_83 sm_X8_in dX8_restore_3 rfl rfl rfl ⟨Nat.le_of_ble_eq_true rfl, Nat.le_of_ble_eq_true rfl⟩ (Nat.le_of_ble_eq_true rfl) ⟨Nat.le_refl 0, Nat.le_refl 0⟩ (ct_X8_in hL h1) ?_
  refine g_if_ne (tgt := 12) C dX8_restore_6 (by decide) h ?_ ?_
  · clear h; intro hc6 h
    refine g_aload_n C dX8_restore_12 rfl 0 rfl ?_
    refine g_getR (k2 := 94) C ok8 dX8_restore_13 (hL 70 rfl) rfl 28 (by decide) lk_X8_80 rfl rfl ?_
    refine g_iload_n C dX8_restore_16 rfl 1 rfl ?_
    refine g_zald C dX8_restore_17 (hL 94 rfl) rfl rfl h ?_
    clear h; intro h
    refine g_if_ne (tgt := 24) C dX8_restore_18 (by decide) h ?_ ?_
    · clear h; intro hc18 h
      refine g_bipush (v := (62 : Int32)) C dX8_restore_24 (by decide) ?_
      refine g_iload_n C dX8_restore_26 rfl 1 rfl ?_
      refine g_imul C dX8_restore_27 ?_
      refine g_istore_n (lv' := fun y => [(2, .int y), (0, .ref (ad 70)), (1, .int v1)]) C dX8_restore_28 rfl (by decide) (fun y => rfl) h ?_
      clear h; intro v22 h
      refine g_aload_n C dX8_restore_29 rfl 1 rfl ?_
      refine g_aload_n C dX8_restore_30 rfl 1 rfl ?_
      refine g_getR (k2 := 93) C ok8 dX8_restore_31 (hL 70 rfl) rfl 27 (by decide) lk_X8_77 rfl rfl ?_
      refine g_iload_n C dX8_restore_34 rfl 0 rfl ?_
      refine g_bipush (v := (61 : Int32)) C dX8_restore_35 (by decide) ?_
      refine g_iadd C dX8_restore_37 ?_
      refine g_iald C dX8_restore_38 (hL 93 rfl) rfl rfl h ?_
      clear h; intro h
      refine g_put (ty := .int) C ok8 dX8_restore_39 (hL 70 rfl) rfl 0 (by decide) lk_X8_87 rfl (tyX8_ok 0 (by decide)) rfl rfl rfl h ?_
      clear h; intro s23 h
      refine g_iconst (v := (0 : Int32)) C dX8_restore_42 (by decide) ?_
      refine g_istore_n (lv' := fun y => [(3, .int y), (2, .int v22), (0, .ref (ad 70)), (1, .int v1)]) C dX8_restore_43 rfl (by decide) (fun y => rfl) h ?_
      clear h; intro v24 h
      refine g_sub (lv2 := [(0, .ref (ad 70)), (2, .int v22), (3, .int v24)]) [2, 1, 0] rfl ?_
      refine wlp_X8_restore_44 (N := N) C hr hlk hL ?_ _ _ _ h
      · intro s30 h
        refine g_iconst (v := (0 : Int32)) C dX8_restore_128 (by decide) ?_
        refine g_istore_n (lv' := fun y => [(3, .int y), (0, .ref (ad 70)), (2, .int v22)]) C dX8_restore_129 rfl (by decide) (fun y => rfl) h ?_
        clear h; intro v31 h
        refine g_sub (lv2 := [(0, .ref (ad 70)), (2, .int v22), (3, .int v31)]) [1, 2, 0] rfl ?_
        refine wlp_X8_restore_130 (N := N) C hr hlk hL ?_ _ _ _ h
        · intro s38 h
          refine g_aload_n C dX8_restore_202 rfl 0 rfl ?_
          replace h := bs_some h
          obtain ⟨s39, h1, h⟩ := h
          refine g_cV (As := []) (rest := []) (stk2 := []) C mf_X8_change ok8 rfl lk_X8_95 in_X8_change se_X8_change dX8_restore_203 (hL 70 rfl) rfl rfl rfl rfl ⟨Nat.le_of_ble_eq_true rfl, Nat.le_of_ble_eq_true rfl⟩ (Nat.le_of_ble_eq_true rfl) ⟨Nat.le_refl 0, Nat.le_refl 0⟩ (ct_X8_change hL h1) ?_
          refine g_iconst (v := (1 : Int32)) C dX8_restore_206 (by decide) ?_
          exact g_iret C hr hlk dX8_restore_207 h
    · clear h; intro hc18 h
      refine g_bipush (v := (-3 : Int32)) C dX8_restore_21 (by decide) ?_
      exact g_iret C hr hlk dX8_restore_23 h
  · clear h; intro hc6 h
    refine g_bipush (v := (-2 : Int32)) C dX8_restore_9 (by decide) ?_
    exact g_iret C hr hlk dX8_restore_11 h
end SM
