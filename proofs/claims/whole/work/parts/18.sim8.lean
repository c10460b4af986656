section SM
variable {p : Program} {l : Launch} {e : Env} {s : State} {m : MethodId} {args : Array Value} {below : List Frame} {meth : Method} {c : Code} {D : va_G} {cy : Nat → ClassId} {ad : Nat → Nat} {A : Nat → Prop} {L : List Nat}
-- X8_laySet
def lpB_X8_laySet_5 (v1 : Int32) (K45 : Int32 → St → Option (St)) (self : Int32 → Int32 → St → Option (St)) (v3 : Int32) (v4 : Int32) (st : St) : Option (St) :=
  (if (7 : Int32) ≤ v4 then K45 v3 st else bs (F_X8_has v1 v4) (fun (r23 : Int32) => (if r23 = 0 then lt (v4 + (1 : Int32)) (fun (v24 : Int32) => self v3 v24 st) else ck (inb v3 7) (lt (up st 84 v3.toNatClampNeg v4) (fun (s25 : St) => ck (inb v3 7) (lt (up s25 85 v3.toNatClampNeg v3) (fun (s26 : St) => lt (v3 + (1 : Int32)) (fun (v27 : Int32) => lt (v4 + (1 : Int32)) (fun (v28 : Int32) => self v27 v28 s26)))))))))
def lp_X8_laySet_5 (v1 : Int32) (K45 : Int32 → St → Option (St)) : Nat → Int32 → Int32 → St → Option (St) := itf (lpB_X8_laySet_5 v1 K45) (fun _ _ _ => none)
def lpB_X8_laySet_74 (v3 : Int32) (K105 : St → Option (St)) (self : Int32 → St → Option (St)) (v6 : Int32) (st : St) : Option (St) :=
  (if v3 ≤ v6 then K105 st else ck (inb v6 7) (ck (inb v6 7) (ck (inb (st 84 v6.toNatClampNeg) 7) (lt (up st 80 (st 84 v6.toNatClampNeg).toNatClampNeg (st 85 v6.toNatClampNeg)) (fun (s35 : St) => lt (v6 + (1 : Int32)) (fun (v36 : Int32) => self v36 s35))))))
def lp_X8_laySet_74 (v3 : Int32) (K105 : St → Option (St)) : Nat → Int32 → St → Option (St) := itf (lpB_X8_laySet_74 v3 K105) (fun _ _ => none)
def lpB_X8_laySet_147 (v3 : Int32) (v4 : Int32) (K184 : St → Option (St)) (self : Int32 → St → Option (St)) (v7 : Int32) (st : St) : Option (St) :=
  (if v3 ≤ v7 then K184 st else ck (inb v7 7) (ck (inb v7 7) (ck (inb (((7 : Int32) * v4) + (st 84 v7.toNatClampNeg)) 1792) (lt (up st 83 (((7 : Int32) * v4) + (st 84 v7.toNatClampNeg)).toNatClampNeg (st 85 v7.toNatClampNeg)) (fun (s49 : St) => lt (v7 + (1 : Int32)) (fun (v50 : Int32) => self v50 s49))))))
def lp_X8_laySet_147 (v3 : Int32) (v4 : Int32) (K184 : St → Option (St)) : Nat → Int32 → St → Option (St) := itf (lpB_X8_laySet_147 v3 v4 K184) (fun _ _ => none)
def lpB_X8_laySet_66 (N : Nat) (v1 : Int32) (v2 : Int32) (v3 : Int32) (v4 : Int32) (self : Int32 → St → Option (St)) (v5 : Int32) (st : St) : Option (St) :=
  (if v5 = 0 then some st else lt (0 : Int32) (fun (v34 : Int32) => lp_X8_laySet_74 v3 (fun (s37 : St) => bd (F_X8_layPay N v1 v2 s37) (fun (r38 : Int32) (s39 : St) => lt r38 (fun (v40 : Int32) => ck (inb v4 256) (lt (fun (s41 : St) => bd (F_X8_isNext N v3 s41) (fun (r43 : Int32) (s44 : St) => lt r43 (fun (v45 : Int32) => self v45 s44))) (fun (j42 : St → Option (St)) => lt (ck (inb v4 256) (lt (up s39 82 v4.toNatClampNeg v40) (fun (s47 : St) => lt (0 : Int32) (fun (v48 : Int32) => lp_X8_laySet_147 v3 v4 (fun (s51 : St) => j42 s51) N v48 s47)))) (fun (j46 : Option (St)) => (if (s39 82 v4.toNatClampNeg) < 0 then j46 else ck (inb v4 256) ((if (s39 82 v4.toNatClampNeg) ≤ v40 then j42 s39 else j46))))))))) N v34 st))
def lp_X8_laySet_66 (N : Nat) (v1 : Int32) (v2 : Int32) (v3 : Int32) (v4 : Int32) : Nat → Int32 → St → Option (St) := itf (lpB_X8_laySet_66 N v1 v2 v3 v4) (fun _ _ => none)
def F_X8_laySet (N : Nat) (v1 : Int32) (v2 : Int32) (st : St) : Option (St) :=
  lt (0 : Int32) (fun (v21 : Int32) => lt (0 : Int32) (fun (v22 : Int32) => lp_X8_laySet_5 v1 (fun (v29 : Int32) (s30 : St) => lt (((128 : Int32) * v2) + v1) (fun (v31 : Int32) => ck (inb v31 256) (lt (up s30 82 v31.toNatClampNeg (-6 : Int32)) (fun (s32 : St) => lt (1 : Int32) (fun (v33 : Int32) => lp_X8_laySet_66 N v1 v2 v29 v31  N v33 s32))))) N v21 v22 st))
set_option maxHeartbeats 4000000 in
set_option maxRecDepth 100000 in
theorem wlp_X8_laySet_5 (C : Cx p s m args c cX8_laySet RX8 8 D cy ad A L) (hr : meth.sig.returnType = none) (hlk : meth.locks = false) (hL : ∀ k, prF k = true → k ∈ L) {N : Nat} {v1 : Int32} {v2 : Int32} {st' : St} {K45 : Int32 → St → Option (St)} (hK45 : ∀ (v3 : Int32) (st : St), K45 v3 st = some st' → Gm p l e (rmD 5) s m args below meth c D cy ad A L 8 0 0 (MQ below (QG D cy ad A L none st') args s 0 0 A) 45 [(0, .ref (ad 70)), (1, .int v1), (2, .int v2), (3, .int v3)] [] st) : ∀ (n : Nat) (v3 : Int32) (v4 : Int32) (st : St), lp_X8_laySet_5 v1 K45 n v3 v4 st = some st' → Gm p l e (rmD 5) s m args below meth c D cy ad A L 8 0 0 (MQ below (QG D cy ad A L none st') args s 0 0 A) 5 [(0, .ref (ad 70)), (1, .int v1), (2, .int v2), (3, .int v3), (4, .int v4)] [] st := by
  intro n
  induction n with
  | zero => intro v3 v4 st h; cases h
  | succ n ih =>
    intro v3 v4 st h
    change lpB_X8_laySet_5 v1 K45 (lp_X8_laySet_5 v1 K45 n) v3 v4 st = some _ at h
    unfold lpB_X8_laySet_5 at h
    refine g_iload C dX8_laySet_5 4 rfl ?_
    refine g_bipush (v := (7 : Int32)) C dX8_laySet_7 (by decide) ?_
    refine g_icmp_ge (tgt := 45) C dX8_laySet_9 (by decide) h ?_ ?_
    · clear h; intro hc9 h
      refine g_sub (lv2 := [(0, .ref (ad 70)), (1, .int v1), (2, .int v2), (3, .int v3)]) [0, 1, 2, 3] rfl ?_
      exact hK45 _ _ h
    · clear h; intro hc9 h
      refine g_iload_n C dX8_laySet_12 rfl 1 rfl ?_
      refine g_iload C dX8_laySet_13 4 rfl ?_
      replace h := bs_some h
      obtain ⟨r23, h1, h⟩ := h
      refine g_cS (As := [.int v1, .int v4]) (rest := []) (stk2 := [.int r23]) C mf_X8_has lk_X8_103 sm_X8_has dX8_laySet_15 rfl rfl rfl ⟨Nat.le_of_ble_eq_true rfl, Nat.le_of_ble_eq_true rfl⟩ (Nat.le_of_ble_eq_true rfl) ⟨Nat.le_refl 0, Nat.le_refl 0⟩ (ct_X8_has hL h1) ?_
      refine g_if_eq (tgt := 39) C dX8_laySet_18 (by decide) h ?_ ?_
      · clear h; intro hc18 h
        refine g_iinc (lv' := fun y => [(4, .int y), (0, .ref (ad 70)), (1, .int v1), (2, .int v2), (3, .int v3)]) C dX8_laySet_39 4 rfl rfl (by decide) (fun y => rfl) h ?_
        clear h; intro v24 h
        refine g_goto (tgt := 5) C dX8_laySet_42 (by decide) ?_
        refine g_sub (lv2 := [(0, .ref (ad 70)), (1, .int v1), (2, .int v2), (3, .int v3), (4, .int v24)]) [1, 2, 3, 4, 0] rfl ?_
        exact ih _ _ _ h
      · clear h; intro hc18 h
        refine g_aload_n C dX8_laySet_21 rfl 0 rfl ?_
        refine g_getR (k2 := 84) C ok8 dX8_laySet_22 (hL 70 rfl) rfl 15 (by decide) lk_X8_50 rfl rfl ?_
        refine g_iload_n C dX8_laySet_25 rfl 3 rfl ?_
        refine g_iload C dX8_laySet_26 4 rfl ?_
        refine g_iast C dX8_laySet_28 (hL 84 rfl) rfl rfl h ?_
        clear h; intro s25 h
        refine g_aload_n C dX8_laySet_29 rfl 0 rfl ?_
        refine g_getR (k2 := 85) C ok8 dX8_laySet_30 (hL 70 rfl) rfl 16 (by decide) lk_X8_53 rfl rfl ?_
        refine g_iload_n C dX8_laySet_33 rfl 3 rfl ?_
        refine g_iload_n C dX8_laySet_34 rfl 3 rfl ?_
        refine g_iast C dX8_laySet_35 (hL 85 rfl) rfl rfl h ?_
        clear h; intro s26 h
        refine g_iinc (lv' := fun y => [(3, .int y), (0, .ref (ad 70)), (1, .int v1), (2, .int v2), (4, .int v4)]) C dX8_laySet_36 3 rfl rfl (by decide) (fun y => rfl) h ?_
        clear h; intro v27 h
        refine g_iinc (lv' := fun y => [(4, .int y), (3, .int v27), (0, .ref (ad 70)), (1, .int v1), (2, .int v2)]) C dX8_laySet_39 4 rfl rfl (by decide) (fun y => rfl) h ?_
        clear h; intro v28 h
        refine g_goto (tgt := 5) C dX8_laySet_42 (by decide) ?_
        refine g_sub (lv2 := [(0, .ref (ad 70)), (1, .int v1), (2, .int v2), (3, .int v27), (4, .int v28)]) [2, 3, 4, 1, 0] rfl ?_
        exact ih _ _ _ h
set_option maxHeartbeats 4000000 in
set_option maxRecDepth 100000 in
theorem wlp_X8_laySet_74 (C : Cx p s m args c cX8_laySet RX8 8 D cy ad A L) (hr : meth.sig.returnType = none) (hlk : meth.locks = false) (hL : ∀ k, prF k = true → k ∈ L) {N : Nat} {v1 : Int32} {v2 : Int32} {v3 : Int32} {v4 : Int32} {st' : St} {K105 : St → Option (St)} (hK105 : ∀  (st : St), K105 st = some st' → Gm p l e (rmD 5) s m args below meth c D cy ad A L 8 0 0 (MQ below (QG D cy ad A L none st') args s 0 0 A) 105 [(0, .ref (ad 70)), (1, .int v1), (2, .int v2), (3, .int v3), (4, .int v4)] [] st) : ∀ (n : Nat) (v6 : Int32) (st : St), lp_X8_laySet_74 v3 K105 n v6 st = some st' → Gm p l e (rmD 5) s m args below meth c D cy ad A L 8 0 0 (MQ below (QG D cy ad A L none st') args s 0 0 A) 74 [(0, .ref (ad 70)), (1, .int v1), (2, .int v2), (3, .int v3), (4, .int v4), (6, .int v6)] [] st := by
  intro n
  induction n with
  | zero => intro v6 st h; cases h
  | succ n ih =>
    intro v6 st h
    change lpB_X8_laySet_74 v3 K105 (lp_X8_laySet_74 v3 K105 n) v6 st = some _ at h
    unfold lpB_X8_laySet_74 at h
    refine g_iload C dX8_laySet_74 5 rfl ?_
    refine g_iload_n C dX8_laySet_76 rfl 3 rfl ?_
    refine g_icmp_ge (tgt := 105) C dX8_laySet_77 (by decide) h ?_ ?_
    · clear h; intro hc77 h
      refine g_sub (lv2 := [(0, .ref (ad 70)), (1, .int v1), (2, .int v2), (3, .int v3), (4, .int v4)]) [0, 1, 2, 3, 4] rfl ?_
      exact hK105 _ h
    · clear h; intro hc77 h
      refine g_aload_n C dX8_laySet_80 rfl 0 rfl ?_
      refine g_getR (k2 := 80) C ok8 dX8_laySet_81 (hL 70 rfl) rfl 10 (by decide) lk_X8_38 rfl rfl ?_
      refine g_aload_n C dX8_laySet_84 rfl 0 rfl ?_
      refine g_getR (k2 := 84) C ok8 dX8_laySet_85 (hL 70 rfl) rfl 15 (by decide) lk_X8_50 rfl rfl ?_
      refine g_iload C dX8_laySet_88 5 rfl ?_
      refine g_iald C dX8_laySet_90 (hL 84 rfl) rfl rfl h ?_
      clear h; intro h
      refine g_aload_n C dX8_laySet_91 rfl 0 rfl ?_
      refine g_getR (k2 := 85) C ok8 dX8_laySet_92 (hL 70 rfl) rfl 16 (by decide) lk_X8_53 rfl rfl ?_
      refine g_iload C dX8_laySet_95 5 rfl ?_
      refine g_iald C dX8_laySet_97 (hL 85 rfl) rfl rfl h ?_
      clear h; intro h
      refine g_iast C dX8_laySet_98 (hL 80 rfl) rfl rfl h ?_
      clear h; intro s35 h
      refine g_iinc (lv' := fun y => [(6, .int y), (0, .ref (ad 70)), (1, .int v1), (2, .int v2), (3, .int v3), (4, .int v4)]) C dX8_laySet_99 5 rfl rfl (by decide) (fun y => rfl) h ?_
      clear h; intro v36 h
      refine g_goto (tgt := 74) C dX8_laySet_102 (by decide) ?_
      refine g_sub (lv2 := [(0, .ref (ad 70)), (1, .int v1), (2, .int v2), (3, .int v3), (4, .int v4), (6, .int v36)]) [1, 2, 3, 4, 5, 0] rfl ?_
      exact ih _ _ h
set_option maxHeartbeats 4000000 in
set_option maxRecDepth 100000 in
theorem wlp_X8_laySet_147 (C : Cx p s m args c cX8_laySet RX8 8 D cy ad A L) (hr : meth.sig.returnType = none) (hlk : meth.locks = false) (hL : ∀ k, prF k = true → k ∈ L) {N : Nat} {v1 : Int32} {v2 : Int32} {v3 : Int32} {v4 : Int32} {st' : St} {K184 : St → Option (St)} (hK184 : ∀  (st : St), K184 st = some st' → Gm p l e (rmD 5) s m args below meth c D cy ad A L 8 0 0 (MQ below (QG D cy ad A L none st') args s 0 0 A) 184 [(0, .ref (ad 70)), (1, .int v1), (2, .int v2), (3, .int v3), (4, .int v4)] [] st) : ∀ (n : Nat) (v7 : Int32) (st : St), lp_X8_laySet_147 v3 v4 K184 n v7 st = some st' → Gm p l e (rmD 5) s m args below meth c D cy ad A L 8 0 0 (MQ below (QG D cy ad A L none st') args s 0 0 A) 147 [(0, .ref (ad 70)), (1, .int v1), (2, .int v2), (3, .int v3), (4, .int v4), (7, .int v7)] [] st := by
  intro n
  induction n with
  | zero => intro v7 st h; cases h
  | succ n ih =>
    intro v7 st h
    change lpB_X8_laySet_147 v3 v4 K184 (lp_X8_laySet_147 v3 v4 K184 n) v7 st = some _ at h
    unfold lpB_X8_laySet_147 at h
    refine g_iload C dX8_laySet_147 5 rfl ?_
    refine g_iload_n C dX8_laySet_149 rfl 3 rfl ?_
    refine g_icmp_ge (tgt := 184) C dX8_laySet_150 (by decide) h ?_ ?_
    · clear h; intro hc150 h
      refine g_sub (lv2 := [(0, .ref (ad 70)), (1, .int v1), (2, .int v2), (3, .int v3), (4, .int v4)]) [0, 1, 2, 3, 4] rfl ?_
      exact hK184 _ h
    · clear h; intro hc150 h
      refine g_aload_n C dX8_laySet_153 rfl 0 rfl ?_
      refine g_getR (k2 := 83) C ok8 dX8_laySet_154 (hL 70 rfl) rfl 14 (by decide) lk_X8_47 rfl rfl ?_
      refine g_bipush (v := (7 : Int32)) C dX8_laySet_157 (by decide) ?_
      refine g_iload C dX8_laySet_159 4 rfl ?_
      refine g_imul C dX8_laySet_161 ?_
      refine g_aload_n C dX8_laySet_162 rfl 0 rfl ?_
      refine g_getR (k2 := 84) C ok8 dX8_laySet_163 (hL 70 rfl) rfl 15 (by decide) lk_X8_50 rfl rfl ?_
      refine g_iload C dX8_laySet_166 5 rfl ?_
      refine g_iald C dX8_laySet_168 (hL 84 rfl) rfl rfl h ?_
      clear h; intro h
      refine g_iadd C dX8_laySet_169 ?_
      refine g_aload_n C dX8_laySet_170 rfl 0 rfl ?_
      refine g_getR (k2 := 85) C ok8 dX8_laySet_171 (hL 70 rfl) rfl 16 (by decide) lk_X8_53 rfl rfl ?_
      refine g_iload C dX8_laySet_174 5 rfl ?_
      refine g_iald C dX8_laySet_176 (hL 85 rfl) rfl rfl h ?_
      clear h; intro h
      refine g_iast C dX8_laySet_177 (hL 83 rfl) rfl rfl h ?_
      clear h; intro s49 h
      refine g_iinc (lv' := fun y => [(7, .int y), (0, .ref (ad 70)), (1, .int v1), (2, .int v2), (3, .int v3), (4, .int v4)]) C dX8_laySet_178 5 rfl rfl (by decide) (fun y => rfl) h ?_
      clear h; intro v50 h
      refine g_goto (tgt := 147) C dX8_laySet_181 (by decide) ?_
      refine g_sub (lv2 := [(0, .ref (ad 70)), (1, .int v1), (2, .int v2), (3, .int v3), (4, .int v4), (7, .int v50)]) [1, 2, 3, 4, 5, 0] rfl ?_
      exact ih _ _ h
set_option maxHeartbeats 4000000 in
set_option maxRecDepth 100000 in
theorem wlp_X8_laySet_66 (C : Cx p s m args c cX8_laySet RX8 8 D cy ad A L) (hr : meth.sig.returnType = none) (hlk : meth.locks = false) (hL : ∀ k, prF k = true → k ∈ L) {N : Nat} {v1 : Int32} {v2 : Int32} {v3 : Int32} {v4 : Int32} {st' : St} : ∀ (n : Nat) (v5 : Int32) (st : St), lp_X8_laySet_66 N v1 v2 v3 v4 n v5 st = some st' → Gm p l e (rmD 5) s m args below meth c D cy ad A L 8 0 0 (MQ below (QG D cy ad A L none st') args s 0 0 A) 66 [(0, .ref (ad 70)), (1, .int v1), (2, .int v2), (3, .int v3), (4, .int v4), (5, .int v5)] [] st := by
  intro n
  induction n with
  | zero => intro v5 st h; cases h
  | succ n ih =>
    intro v5 st h
    change lpB_X8_laySet_66 N v1 v2 v3 v4 (lp_X8_laySet_66 N v1 v2 v3 v4 n) v5 st = some _ at h
    unfold lpB_X8_laySet_66 at h
    refine g_iload C dX8_laySet_66 5 rfl ?_
    refine g_if_eq (tgt := 194) C dX8_laySet_68 (by decide) h ?_ ?_
    · clear h; intro hc68 h
      exact g_vret C hr hlk dX8_laySet_194 h
    · clear h; intro hc68 h
      refine g_iconst (v := (0 : Int32)) C dX8_laySet_71 (by decide) ?_
      refine g_istore (lv' := fun y => [(6, .int y), (0, .ref (ad 70)), (1, .int v1), (2, .int v2), (3, .int v3), (4, .int v4), (5, .int v5)]) C dX8_laySet_72 (by decide) (fun y => rfl) h ?_
      clear h; intro v34 h
      refine g_sub (lv2 := [(0, .ref (ad 70)), (1, .int v1), (2, .int v2), (3, .int v3), (4, .int v4), (6, .int v34)]) [1, 2, 3, 4, 5, 0] rfl ?_
      refine wlp_X8_laySet_74 (N := N) C hr hlk hL ?_ _ _ _ h
      · intro s37 h
        refine g_aload_n C dX8_laySet_105 rfl 0 rfl ?_
        refine g_iload_n C dX8_laySet_106 rfl 1 rfl ?_
        refine g_iload_n C dX8_laySet_107 rfl 2 rfl ?_
        replace h := bd_some h
        obtain ⟨r38, s39, h1, h⟩ := h
        refine g_cV (As := [.int v1, .int v2]) (rest := []) (stk2 := [.int r38]) C mf_X8_layPay ok8 rfl lk_X8_131 in_X8_layPay se_X8_layPay dX8_laySet_108 (hL 70 rfl) rfl rfl rfl rfl ⟨Nat.le_of_ble_eq_true rfl, Nat.le_of_ble_eq_true rfl⟩ (Nat.le_of_ble_eq_true rfl) ⟨Nat.le_refl 0, Nat.le_refl 0⟩ (ct_X8_layPay hL h1) ?_
        refine g_istore (lv' := fun y => [(6, .int y), (0, .ref (ad 70)), (1, .int v1), (2, .int v2), (3, .int v3), (4, .int v4)]) C dX8_laySet_111 (by decide) (fun y => rfl) h ?_
        clear h; intro v40 h
        refine g_aload_n C dX8_laySet_113 rfl 1 rfl ?_
        refine g_getR (k2 := 82) C ok8 dX8_laySet_114 (hL 70 rfl) rfl 13 (by decide) lk_X8_44 rfl rfl ?_
        refine g_iload C dX8_laySet_117 5 rfl ?_
        refine g_iald C dX8_laySet_119 (hL 82 rfl) rfl rfl h ?_
        clear h; intro h
        replace h := lt_ex h
        obtain ⟨j42, ej42, h⟩ := h
        have hj42 : ∀ (s41 : St), j42 s41 = some st' → Gm p l e (rmD 5) s m args below meth c D cy ad A L 8 0 0 (MQ below (QG D cy ad A L none st') args s 0 0 A) 184 [(0, .ref (ad 70)), (1, .int v1), (2, .int v2), (3, .int v3), (4, .int v4)] [] s41 := by
          intro s41 h
          rw [ej42] at h
          dsimp only at h
          refine g_aload_n C dX8_laySet_184 rfl 0 rfl ?_
          refine g_iload_n C dX8_laySet_185 rfl 3 rfl ?_
          replace h := bd_some h
          obtain ⟨r43, s44, h1, h⟩ := h
          refine g_cV (As := [.int v3]) (rest := []) (stk2 := [.int r43]) C mf_X8_isNext ok8 rfl lk_X8_139 in_X8_isNext se_X8_isNext dX8_laySet_186 (hL 70 rfl) rfl rfl rfl rfl ⟨Nat.le_of_ble_eq_true rfl, Nat.le_of_ble_eq_true rfl⟩ (Nat.le_of_ble_eq_true rfl) ⟨Nat.le_refl 0, Nat.le_refl 0⟩ (ct_X8_isNext hL h1) ?_
          refine g_istore (lv' := fun y => [(5, .int y), (0, .ref (ad 70)), (1, .int v1), (2, .int v2), (3, .int v3), (4, .int v4)]) C dX8_laySet_189 (by decide) (fun y => rfl) h ?_
          clear h; intro v45 h
          refine g_goto (tgt := 66) C dX8_laySet_191 (by decide) ?_
          refine g_sub (lv2 := [(0, .ref (ad 70)), (1, .int v1), (2, .int v2), (3, .int v3), (4, .int v4), (5, .int v45)]) [1, 2, 3, 4, 5, 0] rfl ?_
          exact ih _ _ h
        replace h := lt_ex h
        obtain ⟨j46, ej46, h⟩ := h
        have hj46 : j46 = some st' → Gm p l e (rmD 5) s m args below meth c D cy ad A L 8 0 0 (MQ below (QG D cy ad A L none st') args s 0 0 A) 135 [(0, .ref (ad 70)), (1, .int v1), (2, .int v2), (3, .int v3), (4, .int v4), (6, .int v40)] [] s39 := by
          intro h
          rw [ej46] at h
          skip
          refine g_aload_n C dX8_laySet_135 rfl 0 rfl ?_
          refine g_getR (k2 := 82) C ok8 dX8_laySet_136 (hL 70 rfl) rfl 13 (by decide) lk_X8_44 rfl rfl ?_
          refine g_iload C dX8_laySet_139 4 rfl ?_
          refine g_iload C dX8_laySet_141 5 rfl ?_
          refine g_iast C dX8_laySet_143 (hL 82 rfl) rfl rfl h ?_
          clear h; intro s47 h
          refine g_iconst (v := (0 : Int32)) C dX8_laySet_144 (by decide) ?_
          refine g_istore (lv' := fun y => [(7, .int y), (0, .ref (ad 70)), (1, .int v1), (2, .int v2), (3, .int v3), (4, .int v4), (6, .int v40)]) C dX8_laySet_145 (by decide) (fun y => rfl) h ?_
          clear h; intro v48 h
          refine g_sub (lv2 := [(0, .ref (ad 70)), (1, .int v1), (2, .int v2), (3, .int v3), (4, .int v4), (7, .int v48)]) [1, 2, 3, 4, 5, 0] rfl ?_
          refine wlp_X8_laySet_147 (N := N) C hr hlk hL ?_ _ _ _ h
          · intro s51 h
            refine g_sub (lv2 := [(0, .ref (ad 70)), (1, .int v1), (2, .int v2), (3, .int v3), (4, .int v4)]) [0, 1, 2, 3, 4] rfl ?_
            exact hj42 _ h
        refine g_if_lt (tgt := 135) C dX8_laySet_120 (by decide) h ?_ ?_
        · clear h; intro hc120 h
          refine g_sub (lv2 := [(0, .ref (ad 70)), (1, .int v1), (2, .int v2), (3, .int v3), (4, .int v4), (6, .int v40)]) [1, 2, 3, 4, 5, 0] rfl ?_
          exact hj46  h
        · clear h; intro hc120 h
          refine g_iload C dX8_laySet_123 0 rfl ?_
          refine g_aload_n C dX8_laySet_125 rfl 1 rfl ?_
          refine g_getR (k2 := 82) C ok8 dX8_laySet_126 (hL 70 rfl) rfl 13 (by decide) lk_X8_44 rfl rfl ?_
          refine g_iload C dX8_laySet_129 5 rfl ?_
          refine g_iald C dX8_laySet_131 (hL 82 rfl) rfl rfl h ?_
          clear h; intro h
          refine g_icmp_ge (tgt := 184) C dX8_laySet_132 (by decide) h ?_ ?_
          · clear h; intro hc132 h
            refine g_sub (lv2 := [(0, .ref (ad 70)), (1, .int v1), (2, .int v2), (3, .int v3), (4, .int v4)]) [1, 2, 3, 4, 5] rfl ?_
            exact hj42 _ h
          · clear h; intro hc132 h
            refine g_sub (lv2 := [(0, .ref (ad 70)), (1, .int v1), (2, .int v2), (3, .int v3), (4, .int v4), (6, .int v40)]) [1, 2, 3, 4, 5, 0] rfl ?_
            exact hj46  h
set_option maxHeartbeats 4000000 in
set_option maxRecDepth 100000 in
theorem ct_X8_laySet {N : Nat} (hL : ∀ k, prF k = true → k ∈ L) {v1 : Int32} {v2 : Int32} {st st' : St} (h : F_X8_laySet N v1 v2 st = some st') : Ct l D cy ad A L yX8_laySet cX8_laySet 8 none 5 [.ref (ad 70), .int v1, .int v2] st none st' := by
  unfold F_X8_laySet at h
  refine ct_of (own := RX8) (by decide) rfl (Nat.le_of_ble_eq_true rfl) ?_
  intro p e s m args below meth c C hr hlk
  refine g_sub (lv2 := [(0, .ref (ad 70)), (1, .int v1), (2, .int v2)]) [0, 1, 2] rfl ?_
  refine g_iconst (v := (0 : Int32)) C dX8_laySet_0 (by decide) ?_
  refine g_istore_n (lv' := fun y => [(3, .int y), (0, .ref (ad 70)), (1, .int v1), (2, .int v2)]) C dX8_laySet_1 rfl (by decide) (fun y => rfl) h ?_
  clear h; intro v21 h
  refine g_iconst (v := (0 : Int32)) C dX8_laySet_2 (by decide) ?_
  refine g_istore (lv' := fun y => [(4, .int y), (3, .int v21), (0, .ref (ad 70)), (1, .int v1), (2, .int v2)]) C dX8_laySet_3 (by decide) (fun y => rfl) h ?_
  clear h; intro v22 h
  refine g_sub (lv2 := [(0, .ref (ad 70)), (1, .int v1), (2, .int v2), (3, .int v21), (4, .int v22)]) [2, 3, 4, 1, 0] rfl ?_
  refine wlp_X8_laySet_5 (N := N) C hr hlk hL ?_ _ _ _ _ h
  · intro v29 s30 h
    refine g_sipush (v := (128 : Int32)) C dX8_laySet_45 (by decide) ?_
    refine g_iload_n C dX8_laySet_48 rfl 2 rfl ?_
    refine g_imul C dX8_laySet_49 ?_
    refine g_iload_n C dX8_laySet_50 rfl 1 rfl ?_
    refine g_iadd C dX8_laySet_51 ?_
    refine g_istore (lv' := fun y => [(4, .int y), (0, .ref (ad 70)), (1, .int v1), (2, .int v2), (3, .int v29)]) C dX8_laySet_52 (by decide) (fun y => rfl) h ?_
    clear h; intro v31 h
    refine g_aload_n C dX8_laySet_54 rfl 1 rfl ?_
    refine g_getR (k2 := 82) C ok8 dX8_laySet_55 (hL 70 rfl) rfl 13 (by decide) lk_X8_44 rfl rfl ?_
    refine g_iload C dX8_laySet_58 0 rfl ?_
    refine g_bipush (v := (-6 : Int32)) C dX8_laySet_60 (by decide) ?_
    refine g_iast C dX8_laySet_62 (hL 82 rfl) rfl rfl h ?_
    clear h; intro s32 h
    refine g_iconst (v := (1 : Int32)) C dX8_laySet_63 (by decide) ?_
    refine g_istore (lv' := fun y => [(5, .int y), (4, .int v31), (0, .ref (ad 70)), (1, .int v1), (2, .int v2), (3, .int v29)]) C dX8_laySet_64 (by decide) (fun y => rfl) h ?_
    clear h; intro v33 h
    refine g_sub (lv2 := [(0, .ref (ad 70)), (1, .int v1), (2, .int v2), (3, .int v29), (4, .int v31), (5, .int v33)]) [2, 3, 4, 5, 1, 0] rfl ?_
    refine wlp_X8_laySet_66 (N := N) C hr hlk hL  _ _ _ h
-- X8_laySets
def lpB_X8_laySets_34 (N : Nat) (v1 : Int32) (v2 : Int32) (self : Int32 → St → Option (St)) (v3 : Int32) (st : St) : Option (St) :=
  (if (128 : Int32) ≤ v3 then some st else (if (v3 &&& (v2 ^^^ (-1 : Int32))) = 0 then bs (F_X8_laySet N v3 v1 st) (fun (s28 : St) => lt (v3 + (1 : Int32)) (fun (v29 : Int32) => self v29 s28)) else lt (v3 + (1 : Int32)) (fun (v27 : Int32) => self v27 st)))
def lp_X8_laySets_34 (N : Nat) (v1 : Int32) (v2 : Int32) : Nat → Int32 → St → Option (St) := itf (lpB_X8_laySets_34 N v1 v2) (fun _ _ => none)
def F_X8_laySets (N : Nat) (v1 : Int32) (st : St) : Option (St) :=
  ck (inb v1 2) ((if (st 78 v1.toNatClampNeg) = 0 then some st else ck (inb v1 2) (lt (up st 78 v1.toNatClampNeg (vp_nar .boolean (0 : Int32))) (fun (s21 : St) => bd (F_X8_usedOnes N s21) (fun (r22 : Int32) (s23 : St) => lt r22 (fun (v24 : Int32) => ck (inb ((128 : Int32) * v1) 256) (lt (up s23 82 ((128 : Int32) * v1).toNatClampNeg (0 : Int32)) (fun (s25 : St) => lt (1 : Int32) (fun (v26 : Int32) => lp_X8_laySets_34 N v1 v24  N v26 s25)))))))))
set_option maxHeartbeats 4000000 in
set_option maxRecDepth 100000 in
theorem wlp_X8_laySets_34 (C : Cx p s m args c cX8_laySets RX8 4 D cy ad A L) (hr : meth.sig.returnType = none) (hlk : meth.locks = false) (hL : ∀ k, prF k = true → k ∈ L) {N : Nat} {v1 : Int32} {v2 : Int32} {st' : St} : ∀ (n : Nat) (v3 : Int32) (st : St), lp_X8_laySets_34 N v1 v2 n v3 st = some st' → Gm p l e (rmD 6) s m args below meth c D cy ad A L 4 0 0 (MQ below (QG D cy ad A L none st') args s 0 0 A) 34 [(0, .ref (ad 70)), (1, .int v1), (2, .int v2), (3, .int v3)] [] st := by
  intro n
  induction n with
  | zero => intro v3 st h; cases h
  | succ n ih =>
    intro v3 st h
    change lpB_X8_laySets_34 N v1 v2 (lp_X8_laySets_34 N v1 v2 n) v3 st = some _ at h
    unfold lpB_X8_laySets_34 at h
    refine g_iload_n C dX8_laySets_34 rfl 3 rfl ?_
    refine g_sipush (v := (128 : Int32)) C dX8_laySets_35 (by decide) ?_
    refine g_icmp_ge (tgt := 61) C dX8_laySets_38 (by decide) h ?_ ?_
    · clear h; intro hc38 h
      exact g_vret C hr hlk dX8_laySets_61 h
    · clear h; intro hc38 h
      refine g_iload_n C dX8_laySets_41 rfl 3 rfl ?_
      refine g_iload_n C dX8_laySets_42 rfl 2 rfl ?_
      refine g_iconst (v := (-1 : Int32)) C dX8_laySets_43 (by decide) ?_
      refine g_ixor C dX8_laySets_44 ?_
      refine g_iand C dX8_laySets_45 ?_
      refine g_if_ne (tgt := 55) C dX8_laySets_46 (by decide) h ?_ ?_
      · clear h; intro hc46 h
        refine g_iinc (lv' := fun y => [(3, .int y), (0, .ref (ad 70)), (1, .int v1), (2, .int v2)]) C dX8_laySets_55 3 rfl rfl (by decide) (fun y => rfl) h ?_
        clear h; intro v27 h
        refine g_goto (tgt := 34) C dX8_laySets_58 (by decide) ?_
        refine g_sub (lv2 := [(0, .ref (ad 70)), (1, .int v1), (2, .int v2), (3, .int v27)]) [1, 2, 3, 0] rfl ?_
        exact ih _ _ h
      · clear h; intro hc46 h
        refine g_aload_n C dX8_laySets_49 rfl 0 rfl ?_
        refine g_iload_n C dX8_laySets_50 rfl 3 rfl ?_
        refine g_iload_n C dX8_laySets_51 rfl 1 rfl ?_
        replace h := bs_some h
        obtain ⟨s28, h1, h⟩ := h
        refine g_cV (As := [.int v3, .int v1]) (rest := []) (stk2 := []) C mf_X8_laySet ok8 rfl lk_X8_146 in_X8_laySet se_X8_laySet dX8_laySets_52 (hL 70 rfl) rfl rfl rfl rfl ⟨Nat.le_of_ble_eq_true rfl, Nat.le_of_ble_eq_true rfl⟩ (Nat.le_of_ble_eq_true rfl) ⟨Nat.le_refl 0, Nat.le_refl 0⟩ (ct_X8_laySet hL h1) ?_
        refine g_iinc (lv' := fun y => [(3, .int y), (0, .ref (ad 70)), (1, .int v1), (2, .int v2)]) C dX8_laySets_55 3 rfl rfl (by decide) (fun y => rfl) h ?_
        clear h; intro v29 h
        refine g_goto (tgt := 34) C dX8_laySets_58 (by decide) ?_
        refine g_sub (lv2 := [(0, .ref (ad 70)), (1, .int v1), (2, .int v2), (3, .int v29)]) [1, 2, 3, 0] rfl ?_
        exact ih _ _ h
set_option maxHeartbeats 4000000 in
set_option maxRecDepth 100000 in
theorem ct_X8_laySets {N : Nat} (hL : ∀ k, prF k = true → k ∈ L) {v1 : Int32} {st st' : St} (h : F_X8_laySets N v1 st = some st') : Ct l D cy ad A L yX8_laySets cX8_laySets 4 none 6 [.ref (ad 70), .int v1] st none st' := by
  unfold F_X8_laySets at h
  refine ct_of (own := RX8) (by decide) rfl (Nat.le_of_ble_eq_true rfl) ?_
  intro p e s m args below meth c C hr hlk
  refine g_sub (lv2 := [(0, .ref (ad 70)), (1, .int v1)]) [0, 1] rfl ?_
  refine g_aload_n C dX8_laySets_0 rfl 0 rfl ?_
  refine g_getR (k2 := 78) C ok8 dX8_laySets_1 (hL 70 rfl) rfl 8 (by decide) lk_X8_32 rfl rfl ?_
  refine g_iload_n C dX8_laySets_4 rfl 1 rfl ?_
  refine g_zald C dX8_laySets_5 (hL 78 rfl) rfl rfl h ?_
  clear h; intro h
  refine g_if_eq (tgt := 61) C dX8_laySets_6 (by decide) h ?_ ?_
  · clear h; intro hc6 h
    exact g_vret C hr hlk dX8_laySets_61 h
  · clear h; intro hc6 h
    refine g_aload_n C dX8_laySets_9 rfl 0 rfl ?_
    refine g_getR (k2 := 78) C ok8 dX8_laySets_10 (hL 70 rfl) rfl 8 (by decide) lk_X8_32 rfl rfl ?_
    refine g_iload_n C dX8_laySets_13 rfl 1 rfl ?_
    refine g_iconst (v := (0 : Int32)) C dX8_laySets_14 (by decide) ?_
    refine g_zast C dX8_laySets_15 (hL 78 rfl) rfl rfl h ?_
    clear h; intro s21 h
    refine g_aload_n C dX8_laySets_16 rfl 0 rfl ?_
    replace h := bd_some h
    obtain ⟨r22, s23, h1, h⟩ := h
    refine g_cV (As := []) (rest := []) (stk2 := [.int r22]) C mf_X8_usedOnes ok8 rfl lk_X8_142 in_X8_usedOnes se_X8_usedOnes dX8_laySets_17 (hL 70 rfl) rfl rfl rfl rfl ⟨Nat.le_of_ble_eq_true rfl, Nat.le_of_ble_eq_true rfl⟩ (Nat.le_of_ble_eq_true rfl) ⟨Nat.le_refl 0, Nat.le_refl 0⟩ (ct_X8_usedOnes hL h1) ?_
    refine g_istore_n (lv' := fun y => [(2, .int y), (0, .ref (ad 70)), (1, .int v1)]) C dX8_laySets_20 rfl (by decide) (fun y => rfl) h ?_
    clear h; intro v24 h
    refine g_aload_n C dX8_laySets_21 rfl 1 rfl ?_
    refine g_getR (k2 := 82) C ok8 dX8_laySets_22 (hL 70 rfl) rfl 13 (by decide) lk_X8_44 rfl rfl ?_
    refine g_sipush (v := (128 : Int32)) C dX8_laySets_25 (by decide) ?_
    refine g_iload_n C dX8_laySets_28 rfl 2 rfl ?_
    refine g_imul C dX8_laySets_29 ?_
    refine g_iconst (v := (0 : Int32)) C dX8_laySets_30 (by decide) ?_
    refine g_iast C dX8_laySets_31 (hL 82 rfl) rfl rfl h ?_
    clear h; intro s25 h
    refine g_iconst (v := (1 : Int32)) C dX8_laySets_32 (by decide) ?_
    refine g_istore_n (lv' := fun y => [(3, .int y), (2, .int v24), (0, .ref (ad 70)), (1, .int v1)]) C dX8_laySets_33 rfl (by decide) (fun y => rfl) h ?_
    clear h; intro v26 h
    refine g_sub (lv2 := [(0, .ref (ad 70)), (1, .int v1), (2, .int v24), (3, .int v26)]) [2, 3, 1, 0] rfl ?_
    refine wlp_X8_laySets_34 (N := N) C hr hlk hL  _ _ _ h
-- X8_bits
def lpB_X8_bits_4 (v0 : Int32) (self : Int32 → Int32 → Option (Int32)) (v1 : Int32) (v2 : Int32) : Option (Int32) :=
  (if (7 : Int32) ≤ v2 then some v1 else lt (v1 + ((v0 >>> (v2 &&& 31)) &&& (1 : Int32))) (fun (v23 : Int32) => lt (v2 + (1 : Int32)) (fun (v24 : Int32) => self v23 v24)))
def lp_X8_bits_4 (v0 : Int32) : Nat → Int32 → Int32 → Option (Int32) := itf (lpB_X8_bits_4 v0) (fun _ _ => none)
def F_X8_bits (N : Nat) (v0 : Int32) : Option (Int32) :=
  lt (0 : Int32) (fun (v21 : Int32) => lt (0 : Int32) (fun (v22 : Int32) => lp_X8_bits_4 v0  N v21 v22))
set_option maxHeartbeats 4000000 in
set_option maxRecDepth 100000 in
theorem wlp_X8_bits_4 (C : Cx p s m args c cX8_bits RX8 3 D cy ad A L) (hr : meth.sig.returnType = (some .int)) (hlk : meth.locks = false) (hL : ∀ k, prF k = true → k ∈ L) {N : Nat} {v0 : Int32} {r' : Int32}  {st : St} : ∀ (n : Nat) (v1 : Int32) (v2 : Int32), lp_X8_bits_4 v0 n v1 v2 = some r' → Gm p l e (rmD 1) s m args below meth c D cy ad A L 3 0 0 (MQ below (QG D cy ad A L (some (.int r')) st) args s 0 0 A) 4 [(0, .int v0), (1, .int v1), (2, .int v2)] [] st := by
  intro n
  induction n with
  | zero => intro v1 v2 h; cases h
  | succ n ih =>
    intro v1 v2 h
    change lpB_X8_bits_4 v0 (lp_X8_bits_4 v0 n) v1 v2 = some _ at h
    unfold lpB_X8_bits_4 at h
    refine g_iload_n C dX8_bits_4 rfl 2 rfl ?_
    refine g_bipush (v := (7 : Int32)) C dX8_bits_5 (by decide) ?_
    refine g_icmp_ge (tgt := 24) C dX8_bits_7 (by decide) h ?_ ?_
    · clear h; intro hc7 h
      refine g_iload_n C dX8_bits_24 rfl 1 rfl ?_
      exact g_iretP C hr hlk dX8_bits_25 h
    · clear h; intro hc7 h
      refine g_iload_n C dX8_bits_10 rfl 1 rfl ?_
      refine g_iload_n C dX8_bits_11 rfl 0 rfl ?_
      refine g_iload_n C dX8_bits_12 rfl 2 rfl ?_
      refine g_ishr C dX8_bits_13 ?_
      refine g_iconst (v := (1 : Int32)) C dX8_bits_14 (by decide) ?_
      refine g_iand C dX8_bits_15 ?_
      refine g_iadd C dX8_bits_16 ?_
      refine g_istore_n (lv' := fun y => [(1, .int y), (0, .int v0), (2, .int v2)]) C dX8_bits_17 rfl (by decide) (fun y => rfl) h ?_
      clear h; intro v23 h
      refine g_iinc (lv' := fun y => [(2, .int y), (1, .int v23), (0, .int v0)]) C dX8_bits_18 2 rfl rfl (by decide) (fun y => rfl) h ?_
      clear h; intro v24 h
      refine g_goto (tgt := 4) C dX8_bits_21 (by decide) ?_
      refine g_sub (lv2 := [(0, .int v0), (1, .int v23), (2, .int v24)]) [2, 1, 0] rfl ?_
      exact ih _ _ h
set_option maxHeartbeats 4000000 in
set_option maxRecDepth 100000 in
theorem ct_X8_bits {N : Nat} (hL : ∀ k, prF k = true → k ∈ L) {v0 : Int32} {st : St} {r' : Int32} (h : F_X8_bits N v0 = some r') : Ct l D cy ad A L yX8_bits cX8_bits 3 (some .int) 1 [.int v0] st (some (.int r')) st := by
  unfold F_X8_bits at h
  refine ct_of (own := RX8) (by decide) rfl (Nat.le_of_ble_eq_true rfl) ?_
  intro p e s m args below meth c C hr hlk
  refine g_sub (lv2 := [(0, .int v0)]) [0] rfl ?_
  refine g_iconst (v := (0 : Int32)) C dX8_bits_0 (by decide) ?_
  refine g_istore_n (lv' := fun y => [(1, .int y), (0, .int v0)]) C dX8_bits_1 rfl (by decide) (fun y => rfl) h ?_
  clear h; intro v21 h
  refine g_iconst (v := (0 : Int32)) C dX8_bits_2 (by decide) ?_
  refine g_istore_n (lv' := fun y => [(2, .int y), (1, .int v21), (0, .int v0)]) C dX8_bits_3 rfl (by decide) (fun y => rfl) h ?_
  clear h; intro v22 h
  refine g_sub (lv2 := [(0, .int v0), (1, .int v21), (2, .int v22)]) [2, 1, 0] rfl ?_
  refine wlp_X8_bits_4 (N := N) C hr hlk hL  _ _ _ h
-- X8_power
def lpB_X8_power_4 (v0 : Int32) (v1 : Int32) (self : Int32 → Int32 → Option (Int32)) (v2 : Int32) (v3 : Int32) : Option (Int32) :=
  (if v1 ≤ v3 then some v2 else lt (v2 * v0) (fun (v23 : Int32) => lt (v3 + (1 : Int32)) (fun (v24 : Int32) => self v23 v24)))
def lp_X8_power_4 (v0 : Int32) (v1 : Int32) : Nat → Int32 → Int32 → Option (Int32) := itf (lpB_X8_power_4 v0 v1) (fun _ _ => none)
def F_X8_power (N : Nat) (v0 : Int32) (v1 : Int32) : Option (Int32) :=
  lt (1 : Int32) (fun (v21 : Int32) => lt (0 : Int32) (fun (v22 : Int32) => lp_X8_power_4 v0 v1  N v21 v22))
set_option maxHeartbeats 4000000 in
set_option maxRecDepth 100000 in
theorem wlp_X8_power_4 (C : Cx p s m args c cX8_power RX8 4 D cy ad A L) (hr : meth.sig.returnType = (some .int)) (hlk : meth.locks = false) (hL : ∀ k, prF k = true → k ∈ L) {N : Nat} {v0 : Int32} {v1 : Int32} {r' : Int32}  {st : St} : ∀ (n : Nat) (v2 : Int32) (v3 : Int32), lp_X8_power_4 v0 v1 n v2 v3 = some r' → Gm p l e (rmD 1) s m args below meth c D cy ad A L 4 0 0 (MQ below (QG D cy ad A L (some (.int r')) st) args s 0 0 A) 4 [(0, .int v0), (1, .int v1), (2, .int v2), (3, .int v3)] [] st := by
  intro n
  induction n with
  | zero => intro v2 v3 h; cases h
  | succ n ih =>
    intro v2 v3 h
    change lpB_X8_power_4 v0 v1 (lp_X8_power_4 v0 v1 n) v2 v3 = some _ at h
    unfold lpB_X8_power_4 at h
    refine g_iload_n C dX8_power_4 rfl 3 rfl ?_
    refine g_iload_n C dX8_power_5 rfl 1 rfl ?_
    refine g_icmp_ge (tgt := 19) C dX8_power_6 (by decide) h ?_ ?_
    · clear h; intro hc6 h
      refine g_iload_n C dX8_power_19 rfl 2 rfl ?_
      exact g_iretP C hr hlk dX8_power_20 h
    · clear h; intro hc6 h
      refine g_iload_n C dX8_power_9 rfl 2 rfl ?_
      refine g_iload_n C dX8_power_10 rfl 0 rfl ?_
      refine g_imul C dX8_power_11 ?_
      refine g_istore_n (lv' := fun y => [(2, .int y), (0, .int v0), (1, .int v1), (3, .int v3)]) C dX8_power_12 rfl (by decide) (fun y => rfl) h ?_
      clear h; intro v23 h
      refine g_iinc (lv' := fun y => [(3, .int y), (2, .int v23), (0, .int v0), (1, .int v1)]) C dX8_power_13 3 rfl rfl (by decide) (fun y => rfl) h ?_
      clear h; intro v24 h
      refine g_goto (tgt := 4) C dX8_power_16 (by decide) ?_
      refine g_sub (lv2 := [(0, .int v0), (1, .int v1), (2, .int v23), (3, .int v24)]) [2, 3, 1, 0] rfl ?_
      exact ih _ _ h
set_option maxHeartbeats 4000000 in
set_option maxRecDepth 100000 in
theorem ct_X8_power {N : Nat} (hL : ∀ k, prF k = true → k ∈ L) {v0 : Int32} {v1 : Int32} {st : St} {r' : Int32} (h : F_X8_power N v0 v1 = some r') : Ct l D cy ad A L yX8_power cX8_power 4 (some .int) 1 [.int v0, .int v1] st (some (.int r')) st := by
  unfold F_X8_power at h
  refine ct_of (own := RX8) (by decide) rfl (Nat.le_of_ble_eq_true rfl) ?_
  intro p e s m args below meth c C hr hlk
  refine g_sub (lv2 := [(0, .int v0), (1, .int v1)]) [0, 1] rfl ?_
  refine g_iconst (v := (1 : Int32)) C dX8_power_0 (by decide) ?_
  refine g_istore_n (lv' := fun y => [(2, .int y), (0, .int v0), (1, .int v1)]) C dX8_power_1 rfl (by decide) (fun y => rfl) h ?_
  clear h; intro v21 h
  refine g_iconst (v := (0 : Int32)) C dX8_power_2 (by decide) ?_
  refine g_istore_n (lv' := fun y => [(3, .int y), (2, .int v21), (0, .int v0), (1, .int v1)]) C dX8_power_3 rfl (by decide) (fun y => rfl) h ?_
  clear h; intro v22 h
  refine g_sub (lv2 := [(0, .int v0), (1, .int v1), (2, .int v21), (3, .int v22)]) [2, 3, 1, 0] rfl ?_
  refine wlp_X8_power_4 (N := N) C hr hlk hL  _ _ _ h
-- X8_part
def lpB_X8_part_6 (K26 : St → Option (St)) (self : Int32 → St → Option (St)) (v5 : Int32) (st : St) : Option (St) :=
  (if (3 : Int32) ≤ v5 then K26 st else ck (inb v5 3) (lt (up st 87 v5.toNatClampNeg (0 : Int32)) (fun (s23 : St) => lt (v5 + (1 : Int32)) (fun (v24 : Int32) => self v24 s23))))
def lp_X8_part_6 (K26 : St → Option (St)) : Nat → Int32 → St → Option (St) := itf (lpB_X8_part_6 K26) (fun _ _ => none)
def lpB_X8_part_30 (v1 : Int32) (v2 : Int32) (self : Int32 → Int32 → St → Option (St)) (v4 : Int32) (v5 : Int32) (st : St) : Option (St) :=
  (if v5 < 0 then some st else bs (F_X8_has v1 v5) (fun (r27 : Int32) => (if r27 = 0 then lt (v5 + (-1 : Int32)) (fun (v28 : Int32) => self v4 v28 st) else ck (decide (v2 ≠ 0)) (ck (inb v5 7) (lt (up st 86 v5.toNatClampNeg (v4 - v4 / v2 * v2)) (fun (s29 : St) => ck (decide (v2 ≠ 0)) (ck (inb (v4 - v4 / v2 * v2) 3) (ck (inb (v4 - v4 / v2 * v2) 3) (lt (up s29 87 (v4 - v4 / v2 * v2).toNatClampNeg ((s29 87 (v4 - v4 / v2 * v2).toNatClampNeg) ||| ((1 : Int32) <<< (v5 &&& 31)))) (fun (s30 : St) => ck (decide (v2 ≠ 0)) (lt (v4 / v2) (fun (v31 : Int32) => lt (v5 + (-1 : Int32)) (fun (v32 : Int32) => self v31 v32 s30)))))))))))))
def lp_X8_part_30 (v1 : Int32) (v2 : Int32) : Nat → Int32 → Int32 → St → Option (St) := itf (lpB_X8_part_30 v1 v2) (fun _ _ _ => none)
def F_X8_part (N : Nat) (v1 : Int32) (v2 : Int32) (v3 : Int32) (st : St) : Option (St) :=
  lt v3 (fun (v21 : Int32) => lt (0 : Int32) (fun (v22 : Int32) => lp_X8_part_6 (fun (s25 : St) => lt (6 : Int32) (fun (v26 : Int32) => lp_X8_part_30 v1 v2  N v21 v26 s25)) N v22 st))
set_option maxHeartbeats 4000000 in
set_option maxRecDepth 100000 in
theorem wlp_X8_part_6 (C : Cx p s m args c cX8_part RX8 6 D cy ad A L) (hr : meth.sig.returnType = none) (hlk : meth.locks = false) (hL : ∀ k, prF k = true → k ∈ L) {N : Nat} {v1 : Int32} {v2 : Int32} {v4 : Int32} {st' : St} {K26 : St → Option (St)} (hK26 : ∀  (st : St), K26 st = some st' → Gm p l e (rmD 2) s m args below meth c D cy ad A L 6 0 0 (MQ below (QG D cy ad A L none st') args s 0 0 A) 26 [(0, .ref (ad 70)), (1, .int v1), (2, .int v2), (4, .int v4)] [] st) : ∀ (n : Nat) (v5 : Int32) (st : St), lp_X8_part_6 K26 n v5 st = some st' → Gm p l e (rmD 2) s m args below meth c D cy ad A L 6 0 0 (MQ below (QG D cy ad A L none st') args s 0 0 A) 6 [(0, .ref (ad 70)), (1, .int v1), (2, .int v2), (4, .int v4), (5, .int v5)] [] st := by
  intro n
  induction n with
  | zero => intro v5 st h; cases h
  | succ n ih =>
    intro v5 st h
    change lpB_X8_part_6 K26 (lp_X8_part_6 K26 n) v5 st = some _ at h
    unfold lpB_X8_part_6 at h
    refine g_iload C dX8_part_6 4 rfl ?_
    refine g_iconst (v := (3 : Int32)) C dX8_part_8 (by decide) ?_
    refine g_icmp_ge (tgt := 26) C dX8_part_9 (by decide) h ?_ ?_
    · clear h; intro hc9 h
      refine g_sub (lv2 := [(0, .ref (ad 70)), (1, .int v1), (2, .int v2), (4, .int v4)]) [0, 1, 2, 3] rfl ?_
      exact hK26 _ h
    · clear h; intro hc9 h
      refine g_aload_n C dX8_part_12 rfl 0 rfl ?_
      refine g_getR (k2 := 87) C ok8 dX8_part_13 (hL 70 rfl) rfl 18 (by decide) lk_X8_59 rfl rfl ?_
      refine g_iload C dX8_part_16 4 rfl ?_
      refine g_iconst (v := (0 : Int32)) C dX8_part_18 (by decide) ?_
      refine g_iast C dX8_part_19 (hL 87 rfl) rfl rfl h ?_
      clear h; intro s23 h
      refine g_iinc (lv' := fun y => [(5, .int y), (0, .ref (ad 70)), (1, .int v1), (2, .int v2), (4, .int v4)]) C dX8_part_20 4 rfl rfl (by decide) (fun y => rfl) h ?_
      clear h; intro v24 h
      refine g_goto (tgt := 6) C dX8_part_23 (by decide) ?_
      refine g_sub (lv2 := [(0, .ref (ad 70)), (1, .int v1), (2, .int v2), (4, .int v4), (5, .int v24)]) [1, 2, 3, 4, 0] rfl ?_
      exact ih _ _ h
set_option maxHeartbeats 4000000 in
set_option maxRecDepth 100000 in
theorem wlp_X8_part_30 (C : Cx p s m args c cX8_part RX8 6 D cy ad A L) (hr : meth.sig.returnType = none) (hlk : meth.locks = false) (hL : ∀ k, prF k = true → k ∈ L) {N : Nat} {v1 : Int32} {v2 : Int32} {st' : St} : ∀ (n : Nat) (v4 : Int32) (v5 : Int32) (st : St), lp_X8_part_30 v1 v2 n v4 v5 st = some st' → Gm p l e (rmD 2) s m args below meth c D cy ad A L 6 0 0 (MQ below (QG D cy ad A L none st') args s 0 0 A) 30 [(0, .ref (ad 70)), (1, .int v1), (2, .int v2), (4, .int v4), (5, .int v5)] [] st := by
  intro n
  induction n with
  | zero => intro v4 v5 st h; cases h
  | succ n ih =>
    intro v4 v5 st h
    change lpB_X8_part_30 v1 v2 (lp_X8_part_30 v1 v2 n) v4 v5 st = some _ at h
    unfold lpB_X8_part_30 at h
    refine g_iload C dX8_part_30 4 rfl ?_
    refine g_if_lt (tgt := 83) C dX8_part_32 (by decide) h ?_ ?_
    · clear h; intro hc32 h
      exact g_vret C hr hlk dX8_part_83 h
    · clear h; intro hc32 h
      refine g_iload_n C dX8_part_35 rfl 1 rfl ?_
      refine g_iload C dX8_part_36 4 rfl ?_
      replace h := bs_some h
      obtain ⟨r27, h1, h⟩ := h
      refine g_cS (As := [.int v1, .int v5]) (rest := []) (stk2 := [.int r27]) C mf_X8_has lk_X8_103 sm_X8_has dX8_part_38 rfl rfl rfl ⟨Nat.le_of_ble_eq_true rfl, Nat.le_of_ble_eq_true rfl⟩ (Nat.le_of_ble_eq_true rfl) ⟨Nat.le_refl 0, Nat.le_refl 0⟩ (ct_X8_has hL h1) ?_
      refine g_if_eq (tgt := 77) C dX8_part_41 (by decide) h ?_ ?_
      · clear h; intro hc41 h
        refine g_iinc (lv' := fun y => [(5, .int y), (0, .ref (ad 70)), (1, .int v1), (2, .int v2), (4, .int v4)]) C dX8_part_77 4 rfl rfl (by decide) (fun y => rfl) h ?_
        clear h; intro v28 h
        refine g_goto (tgt := 30) C dX8_part_80 (by decide) ?_
        refine g_sub (lv2 := [(0, .ref (ad 70)), (1, .int v1), (2, .int v2), (4, .int v4), (5, .int v28)]) [1, 2, 3, 4, 0] rfl ?_
        exact ih _ _ _ h
      · clear h; intro hc41 h
        refine g_aload_n C dX8_part_44 rfl 0 rfl ?_
        refine g_getR (k2 := 86) C ok8 dX8_part_45 (hL 70 rfl) rfl 17 (by decide) lk_X8_56 rfl rfl ?_
        refine g_iload C dX8_part_48 4 rfl ?_
        refine g_iload C dX8_part_50 3 rfl ?_
        refine g_iload_n C dX8_part_52 rfl 2 rfl ?_
        refine g_irem C dX8_part_53 h ?_
        clear h; intro h
        refine g_iast C dX8_part_54 (hL 86 rfl) rfl rfl h ?_
        clear h; intro s29 h
        refine g_aload_n C dX8_part_55 rfl 0 rfl ?_
        refine g_getR (k2 := 87) C ok8 dX8_part_56 (hL 70 rfl) rfl 18 (by decide) lk_X8_59 rfl rfl ?_
        refine g_iload C dX8_part_59 3 rfl ?_
        refine g_iload_n C dX8_part_61 rfl 2 rfl ?_
        refine g_irem C dX8_part_62 h ?_
        clear h; intro h
        refine g_dup2 C dX8_part_63 rfl rfl ?_
        refine g_iald C dX8_part_64 (hL 87 rfl) rfl rfl h ?_
        clear h; intro h
        refine g_iconst (v := (1 : Int32)) C dX8_part_65 (by decide) ?_
        refine g_iload C dX8_part_66 4 rfl ?_
        refine g_ishl C dX8_part_68 ?_
        refine g_ior C dX8_part_69 ?_
        refine g_iast C dX8_part_70 (hL 87 rfl) rfl rfl h ?_
        clear h; intro s30 h
        refine g_iload C dX8_part_71 3 rfl ?_
        refine g_iload_n C dX8_part_73 rfl 2 rfl ?_
        refine g_idiv C dX8_part_74 h ?_
        clear h; intro h
        refine g_istore (lv' := fun y => [(4, .int y), (0, .ref (ad 70)), (1, .int v1), (2, .int v2), (5, .int v5)]) C dX8_part_75 (by decide) (fun y => rfl) h ?_
        clear h; intro v31 h
        refine g_iinc (lv' := fun y => [(5, .int y), (4, .int v31), (0, .ref (ad 70)), (1, .int v1), (2, .int v2)]) C dX8_part_77 4 rfl rfl (by decide) (fun y => rfl) h ?_
        clear h; intro v32 h
        refine g_goto (tgt := 30) C dX8_part_80 (by decide) ?_
        refine g_sub (lv2 := [(0, .ref (ad 70)), (1, .int v1), (2, .int v2), (4, .int v31), (5, .int v32)]) [2, 3, 4, 1, 0] rfl ?_
        exact ih _ _ _ h
set_option maxHeartbeats 4000000 in
set_option maxRecDepth 100000 in
theorem ct_X8_part {N : Nat} (hL : ∀ k, prF k = true → k ∈ L) {v1 : Int32} {v2 : Int32} {v3 : Int32} {st st' : St} (h : F_X8_part N v1 v2 v3 st = some st') : Ct l D cy ad A L yX8_part cX8_part 6 none 2 [.ref (ad 70), .int v1, .int v2, .int v3] st none st' := by
  unfold F_X8_part at h
  refine ct_of (own := RX8) (by decide) rfl (Nat.le_of_ble_eq_true rfl) ?_
  intro p e s m args below meth c C hr hlk
  refine g_sub (lv2 := [(0, .ref (ad 70)), (1, .int v1), (2, .int v2), (3, .int v3)]) [0, 1, 2, 3] rfl ?_
  refine g_iload_n C dX8_part_0 rfl 3 rfl ?_
  refine g_istore (lv' := fun y => [(4, .int y), (0, .ref (ad 70)), (1, .int v1), (2, .int v2), (3, .int v3)]) C dX8_part_1 (by decide) (fun y => rfl) h ?_
  clear h; intro v21 h
  refine g_iconst (v := (0 : Int32)) C dX8_part_3 (by decide) ?_
  refine g_istore (lv' := fun y => [(5, .int y), (4, .int v21), (0, .ref (ad 70)), (1, .int v1), (2, .int v2), (3, .int v3)]) C dX8_part_4 (by decide) (fun y => rfl) h ?_
  clear h; intro v22 h
  refine g_sub (lv2 := [(0, .ref (ad 70)), (1, .int v1), (2, .int v2), (4, .int v21), (5, .int v22)]) [2, 3, 4, 1, 0] rfl ?_
  refine wlp_X8_part_6 (N := N) C hr hlk hL ?_ _ _ _ h
  · intro s25 h
    refine g_bipush (v := (6 : Int32)) C dX8_part_26 (by decide) ?_
    refine g_istore (lv' := fun y => [(5, .int y), (0, .ref (ad 70)), (1, .int v1), (2, .int v2), (4, .int v21)]) C dX8_part_28 (by decide) (fun y => rfl) h ?_
    clear h; intro v26 h
    refine g_sub (lv2 := [(0, .ref (ad 70)), (1, .int v1), (2, .int v2), (4, .int v21), (5, .int v26)]) [1, 2, 3, 4, 0] rfl ?_
    refine wlp_X8_part_30 (N := N) C hr hlk hL  _ _ _ _ h
-- X8_costNow
def F_X8_costNow (v1 : Int32) (st : St) : Option (Int32) :=
  ck (inb (0 : Int32) 3) (ck (inb (((128 : Int32) * v1) + (st 87 (0 : Int32).toNatClampNeg)) 256) (ck (inb (1 : Int32) 3) (ck (inb (((128 : Int32) * v1) + (st 87 (1 : Int32).toNatClampNeg)) 256) (ck (inb (2 : Int32) 3) (ck (inb (((128 : Int32) * v1) + (st 87 (2 : Int32).toNatClampNeg)) 256) (some (((st 82 (((128 : Int32) * v1) + (st 87 (0 : Int32).toNatClampNeg)).toNatClampNeg) + (st 82 (((128 : Int32) * v1) + (st 87 (1 : Int32).toNatClampNeg)).toNatClampNeg)) + (st 82 (((128 : Int32) * v1) + (st 87 (2 : Int32).toNatClampNeg)).toNatClampNeg))))))))
set_option maxHeartbeats 4000000 in
set_option maxRecDepth 100000 in
theorem ct_X8_costNow (hL : ∀ k, prF k = true → k ∈ L) {v1 : Int32} {st : St} {r' : Int32} (h : F_X8_costNow v1 st = some r') : Ct l D cy ad A L yX8_costNow cX8_costNow 2 (some .int) 1 [.ref (ad 70), .int v1] st (some (.int r')) st := by
  unfold F_X8_costNow at h
  refine ct_of (own := RX8) (by decide) rfl (Nat.le_of_ble_eq_true rfl) ?_
  intro p e s m args below meth c C hr hlk
  refine g_sub (lv2 := [(0, .ref (ad 70)), (1, .int v1)]) [0, 1] rfl ?_
  refine g_aload_n C dX8_costNow_0 rfl 0 rfl ?_
  refine g_getR (k2 := 82) C ok8 dX8_costNow_1 (hL 70 rfl) rfl 13 (by decide) lk_X8_44 rfl rfl ?_
  refine g_sipush (v := (128 : Int32)) C dX8_costNow_4 (by decide) ?_
  refine g_iload_n C dX8_costNow_7 rfl 1 rfl ?_
  refine g_imul C dX8_costNow_8 ?_
  refine g_aload_n C dX8_costNow_9 rfl 0 rfl ?_
  refine g_getR (k2 := 87) C ok8 dX8_costNow_10 (hL 70 rfl) rfl 18 (by decide) lk_X8_59 rfl rfl ?_
  refine g_iconst (v := (0 : Int32)) C dX8_costNow_13 (by decide) ?_
  refine g_iald C dX8_costNow_14 (hL 87 rfl) rfl rfl h ?_
  clear h; intro h
  refine g_iadd C dX8_costNow_15 ?_
  refine g_iald C dX8_costNow_16 (hL 82 rfl) rfl rfl h ?_
  clear h; intro h
  refine g_aload_n C dX8_costNow_17 rfl 0 rfl ?_
  refine g_getR (k2 := 82) C ok8 dX8_costNow_18 (hL 70 rfl) rfl 13 (by decide) lk_X8_44 rfl rfl ?_
  refine g_sipush (v := (128 : Int32)) C dX8_costNow_21 (by decide) ?_
  refine g_iload_n C dX8_costNow_24 rfl 1 rfl ?_
  refine g_imul C dX8_costNow_25 ?_
  refine g_aload_n C dX8_costNow_26 rfl 0 rfl ?_
  refine g_getR (k2 := 87) C ok8 dX8_costNow_27 (hL 70 rfl) rfl 18 (by decide) lk_X8_59 rfl rfl ?_
  refine g_iconst (v := (1 : Int32)) C dX8_costNow_30 (by decide) ?_
  refine g_iald C dX8_costNow_31 (hL 87 rfl) rfl rfl h ?_
  clear h; intro h
  refine g_iadd C dX8_costNow_32 ?_
  refine g_iald C dX8_costNow_33 (hL 82 rfl) rfl rfl h ?_
  clear h; intro h
  refine g_iadd C dX8_costNow_34 ?_
  refine g_aload_n C dX8_costNow_35 rfl 0 rfl ?_
  refine g_getR (k2 := 82) C ok8 dX8_costNow_36 (hL 70 rfl) rfl 13 (by decide) lk_X8_44 rfl rfl ?_
  refine g_sipush (v := (128 : Int32)) C dX8_costNow_39 (by decide) ?_
  refine g_iload_n C dX8_costNow_42 rfl 1 rfl ?_
  refine g_imul C dX8_costNow_43 ?_
  refine g_aload_n C dX8_costNow_44 rfl 0 rfl ?_
  refine g_getR (k2 := 87) C ok8 dX8_costNow_45 (hL 70 rfl) rfl 18 (by decide) lk_X8_59 rfl rfl ?_
  refine g_iconst (v := (2 : Int32)) C dX8_costNow_48 (by decide) ?_
  refine g_iald C dX8_costNow_49 (hL 87 rfl) rfl rfl h ?_
  clear h; intro h
  refine g_iadd C dX8_costNow_50 ?_
  refine g_iald C dX8_costNow_51 (hL 82 rfl) rfl rfl h ?_
  clear h; intro h
  refine g_iadd C dX8_costNow_52 ?_
  exact g_iretP C hr hlk dX8_costNow_53 h
-- X8_turnedFor
def lpB_X8_turnedFor_16 (N : Nat) (v1 : Int32) (self : Int32 → Int32 → Int32 → St → Option (Int32 × St)) (v3 : Int32) (v4 : Int32) (v5 : Int32) (st : St) : Option (Int32 × St) :=
  (if (st 70 0) ≤ v5 then some (v3, st) else bd (F_X8_payBehind N v5 (0 : Int32) v1 v4 st) (fun (r26 : Int32) (s27 : St) => ck (inb (((8 : Int32) * v5) + v4) 88) (lt (fun (x28 : Int32) => lt x28 (fun (v30 : Int32) => lt (fun (x31 : Int32) => lt (v3 ||| x31) (fun (v33 : Int32) => lt (fun (x34 : Int32) => bd (F_X8_costOf N v5 x34 v1 v4 s27) (fun (r36 : Int32) (s37 : St) => lt (s37 70 12) (fun (v38 : Int32) => lt (v5 + (1 : Int32)) (fun (v39 : Int32) => self v33 v38 v39 s37)))) (fun (j35 : Int32 → Option (Int32 × St)) => (if v30 = 0 then j35 (1 : Int32) else j35 (0 : Int32))))) (fun (j32 : Int32 → Option (Int32 × St)) => (if v30 = 0 then j32 ((1 : Int32) <<< (v5 &&& 31)) else j32 (0 : Int32))))) (fun (j29 : Int32 → Option (Int32 × St)) => (if r26 = (s27 81 (((8 : Int32) * v5) + v4).toNatClampNeg) then j29 (1 : Int32) else j29 (0 : Int32))))))
def lp_X8_turnedFor_16 (N : Nat) (v1 : Int32) : Nat → Int32 → Int32 → Int32 → St → Option (Int32 × St) := itf (lpB_X8_turnedFor_16 N v1) (fun _ _ _ _ => none)
def F_X8_turnedFor (N : Nat) (v1 : Int32) (v2 : Int32) (st : St) : Option (Int32 × St) :=
  bd (F_X8_layPay N v1 v2 st) (fun (r21 : Int32) (s22 : St) => lt (0 : Int32) (fun (v23 : Int32) => lt (7 : Int32) (fun (v24 : Int32) => lt (0 : Int32) (fun (v25 : Int32) => lp_X8_turnedFor_16 N v1  N v23 v24 v25 s22))))
set_option maxHeartbeats 4000000 in
set_option maxRecDepth 100000 in
theorem wlp_X8_turnedFor_16 (C : Cx p s m args c cX8_turnedFor RX8 7 D cy ad A L) (hr : meth.sig.returnType = (some .int)) (hlk : meth.locks = false) (hL : ∀ k, prF k = true → k ∈ L) {N : Nat} {v1 : Int32} {r' : Int32} {st' : St} : ∀ (n : Nat) (v3 : Int32) (v4 : Int32) (v5 : Int32) (st : St), lp_X8_turnedFor_16 N v1 n v3 v4 v5 st = some (r', st') → Gm p l e (rmD 5) s m args below meth c D cy ad A L 7 0 0 (MQ below (QG D cy ad A L (some (.int r')) st') args s 0 0 A) 16 [(0, .ref (ad 70)), (1, .int v1), (3, .int v3), (4, .int v4), (5, .int v5)] [] st := by
  intro n
  induction n with
  | zero => intro v3 v4 v5 st h; cases h
  | succ n ih =>
    intro v3 v4 v5 st h
    change lpB_X8_turnedFor_16 N v1 (lp_X8_turnedFor_16 N v1 n) v3 v4 v5 st = some _ at h
    unfold lpB_X8_turnedFor_16 at h
    refine g_iload C dX8_turnedFor_16 4 rfl ?_
    refine g_aload_n C dX8_turnedFor_18 rfl 0 rfl ?_
    refine g_getI C ok8 dX8_turnedFor_19 (hL 70 rfl) rfl 0 (by decide) lk_X8_87 rfl ?_
    refine g_icmp_ge (tgt := 106) C dX8_turnedFor_22 (by decide) h ?_ ?_
    · clear h; intro hc22 h
      refine g_iload_n C dX8_turnedFor_106 rfl 2 rfl ?_
      exact g_iret C hr hlk dX8_turnedFor_107 h
    · clear h; intro hc22 h
      refine g_aload_n C dX8_turnedFor_25 rfl 0 rfl ?_
      refine g_iload C dX8_turnedFor_26 4 rfl ?_
      refine g_iconst (v := (0 : Int32)) C dX8_turnedFor_28 (by decide) ?_
      refine g_iload_n C dX8_turnedFor_29 rfl 1 rfl ?_
      refine g_iload C dX8_turnedFor_30 3 rfl ?_
      replace h := bd_some h
      obtain ⟨r26, s27, h1, h⟩ := h
      refine g_cV (As := [.int v5, .int (0 : Int32), .int v1, .int v4]) (rest := []) (stk2 := [.int r26]) C mf_X8_payBehind ok8 rfl lk_X8_125 in_X8_payBehind se_X8_payBehind dX8_turnedFor_32 (hL 70 rfl) rfl rfl rfl rfl ⟨Nat.le_of_ble_eq_true rfl, Nat.le_of_ble_eq_true rfl⟩ (Nat.le_of_ble_eq_true rfl) ⟨Nat.le_refl 0, Nat.le_refl 0⟩ (ct_X8_payBehind hL h1) ?_
      refine g_aload_n C dX8_turnedFor_35 rfl 0 rfl ?_
      refine g_getR (k2 := 81) C ok8 dX8_turnedFor_36 (hL 70 rfl) rfl 11 (by decide) lk_X8_41 rfl rfl ?_
      refine g_bipush (v := (8 : Int32)) C dX8_turnedFor_39 (by decide) ?_
      refine g_iload C dX8_turnedFor_41 4 rfl ?_
      refine g_imul C dX8_turnedFor_43 ?_
      refine g_iload C dX8_turnedFor_44 3 rfl ?_
      refine g_iadd C dX8_turnedFor_46 ?_
      refine g_iald C dX8_turnedFor_47 (hL 81 rfl) rfl rfl h ?_
      clear h; intro h
      replace h := lt_ex h
      obtain ⟨j29, ej29, h⟩ := h
      have hj29 : ∀ (x28 : Int32), j29 x28 = some (r', st') → Gm p l e (rmD 5) s m args below meth c D cy ad A L 7 0 0 (MQ below (QG D cy ad A L (some (.int r')) st') args s 0 0 A) 56 [(0, .ref (ad 70)), (1, .int v1), (3, .int v3), (4, .int v4), (5, .int v5)] [.int x28] s27 := by
        intro x28 h
        rw [ej29] at h
        dsimp only at h
        refine g_istore (lv' := fun y => [(6, .int y), (0, .ref (ad 70)), (1, .int v1), (3, .int v3), (4, .int v4), (5, .int v5)]) C dX8_turnedFor_56 (by decide) (fun y => rfl) h ?_
        clear h; intro v30 h
        refine g_iload_n C dX8_turnedFor_58 rfl 3 rfl ?_
        refine g_iload C dX8_turnedFor_59 0 rfl ?_
        replace h := lt_ex h
        obtain ⟨j32, ej32, h⟩ := h
        have hj32 : ∀ (x31 : Int32), j32 x31 = some (r', st') → Gm p l e (rmD 5) s m args below meth c D cy ad A L 7 0 0 (MQ below (QG D cy ad A L (some (.int r')) st') args s 0 0 A) 72 [(0, .ref (ad 70)), (1, .int v1), (4, .int v4), (5, .int v5), (6, .int v30)] [.int x31, .int v3] s27 := by
          intro x31 h
          rw [ej32] at h
          dsimp only at h
          refine g_ior C dX8_turnedFor_72 ?_
          refine g_istore_n (lv' := fun y => [(3, .int y), (0, .ref (ad 70)), (1, .int v1), (4, .int v4), (5, .int v5), (6, .int v30)]) C dX8_turnedFor_73 rfl (by decide) (fun y => rfl) h ?_
          clear h; intro v33 h
          refine g_aload_n C dX8_turnedFor_74 rfl 1 rfl ?_
          refine g_iload C dX8_turnedFor_75 4 rfl ?_
          refine g_iload C dX8_turnedFor_77 5 rfl ?_
          replace h := lt_ex h
          obtain ⟨j35, ej35, h⟩ := h
          have hj35 : ∀ (x34 : Int32), j35 x34 = some (r', st') → Gm p l e (rmD 5) s m args below meth c D cy ad A L 7 0 0 (MQ below (QG D cy ad A L (some (.int r')) st') args s 0 0 A) 87 [(0, .ref (ad 70)), (1, .int v1), (3, .int v33), (4, .int v4), (5, .int v5)] [.int x34, .int v5, .ref (ad 70)] s27 := by
            intro x34 h
            rw [ej35] at h
            dsimp only at h
            refine g_iload_n C dX8_turnedFor_87 rfl 1 rfl ?_
            refine g_iload C dX8_turnedFor_88 3 rfl ?_
            replace h := bd_some h
            obtain ⟨r36, s37, h1, h⟩ := h
            refine g_cV (As := [.int v5, .int x34, .int v1, .int v4]) (rest := []) (stk2 := [.int r36]) C mf_X8_costOf ok8 rfl lk_X8_121 in_X8_costOf se_X8_costOf dX8_turnedFor_90 (hL 70 rfl) rfl rfl rfl rfl ⟨Nat.le_of_ble_eq_true rfl, Nat.le_of_ble_eq_true rfl⟩ (Nat.le_of_ble_eq_true rfl) ⟨Nat.le_refl 0, Nat.le_refl 0⟩ (ct_X8_costOf hL h1) ?_
            refine g_pop C dX8_turnedFor_93 rfl ?_
            refine g_aload_n C dX8_turnedFor_94 rfl 0 rfl ?_
            refine g_getI C ok8 dX8_turnedFor_95 (hL 70 rfl) rfl 12 (by decide) lk_X8_115 rfl ?_
            refine g_istore (lv' := fun y => [(4, .int y), (0, .ref (ad 70)), (1, .int v1), (3, .int v33), (5, .int v5)]) C dX8_turnedFor_98 (by decide) (fun y => rfl) h ?_
            clear h; intro v38 h
            refine g_iinc (lv' := fun y => [(5, .int y), (4, .int v38), (0, .ref (ad 70)), (1, .int v1), (3, .int v33)]) C dX8_turnedFor_100 4 rfl rfl (by decide) (fun y => rfl) h ?_
            clear h; intro v39 h
            refine g_goto (tgt := 16) C dX8_turnedFor_103 (by decide) ?_
            refine g_sub (lv2 := [(0, .ref (ad 70)), (1, .int v1), (3, .int v33), (4, .int v38), (5, .int v39)]) [2, 3, 4, 1, 0] rfl ?_
            exact ih _ _ _ _ h
          refine g_if_ne (tgt := 86) C dX8_turnedFor_79 (by decide) h ?_ ?_
          · clear h; intro hc79 h
            refine g_iconst (v := (0 : Int32)) C dX8_turnedFor_86 (by decide) ?_
            refine g_sub (lv2 := [(0, .ref (ad 70)), (1, .int v1), (3, .int v33), (4, .int v4), (5, .int v5)]) [1, 2, 0, 3, 4] rfl ?_
            exact hj35 _ h
          · clear h; intro hc79 h
            refine g_iconst (v := (1 : Int32)) C dX8_turnedFor_82 (by decide) ?_
            refine g_goto (tgt := 87) C dX8_turnedFor_83 (by decide) ?_
            refine g_sub (lv2 := [(0, .ref (ad 70)), (1, .int v1), (3, .int v33), (4, .int v4), (5, .int v5)]) [1, 2, 0, 3, 4] rfl ?_
            exact hj35 _ h
        refine g_if_eq (tgt := 68) C dX8_turnedFor_61 (by decide) h ?_ ?_
        · clear h; intro hc61 h
          refine g_iconst (v := (1 : Int32)) C dX8_turnedFor_68 (by decide) ?_
          refine g_iload C dX8_turnedFor_69 5 rfl ?_
          refine g_ishl C dX8_turnedFor_71 ?_
          refine g_sub (lv2 := [(0, .ref (ad 70)), (1, .int v1), (4, .int v4), (5, .int v5), (6, .int v30)]) [1, 2, 4, 5, 0] rfl ?_
          exact hj32 _ h
        · clear h; intro hc61 h
          refine g_iconst (v := (0 : Int32)) C dX8_turnedFor_64 (by decide) ?_
          refine g_goto (tgt := 72) C dX8_turnedFor_65 (by decide) ?_
          refine g_sub (lv2 := [(0, .ref (ad 70)), (1, .int v1), (4, .int v4), (5, .int v5), (6, .int v30)]) [1, 2, 4, 5, 0] rfl ?_
          exact hj32 _ h
      refine g_icmp_ne (tgt := 55) C dX8_turnedFor_48 (by decide) h ?_ ?_
      · clear h; intro hc48 h
        refine g_iconst (v := (0 : Int32)) C dX8_turnedFor_55 (by decide) ?_
        refine g_sub (lv2 := [(0, .ref (ad 70)), (1, .int v1), (3, .int v3), (4, .int v4), (5, .int v5)]) [0, 1, 2, 3, 4] rfl ?_
        exact hj29 _ h
      · clear h; intro hc48 h
        refine g_iconst (v := (1 : Int32)) C dX8_turnedFor_51 (by decide) ?_
        refine g_goto (tgt := 56) C dX8_turnedFor_52 (by decide) ?_
        refine g_sub (lv2 := [(0, .ref (ad 70)), (1, .int v1), (3, .int v3), (4, .int v4), (5, .int v5)]) [0, 1, 2, 3, 4] rfl ?_
        exact hj29 _ h
set_option maxHeartbeats 4000000 in
set_option maxRecDepth 100000 in
theorem ct_X8_turnedFor {N : Nat} (hL : ∀ k, prF k = true → k ∈ L) {v1 : Int32} {v2 : Int32} {st st' : St} {r' : Int32} (h : F_X8_turnedFor N v1 v2 st = some (r', st')) : Ct l D cy ad A L yX8_turnedFor cX8_turnedFor 7 (some .int) 5 [.ref (ad 70), .int v1, .int v2] st (some (.int r')) st' := by
  unfold F_X8_turnedFor at h
  refine ct_of (own := RX8) (by decide) rfl (Nat.le_of_ble_eq_true rfl) ?_
  intro p e s m args below meth c C hr hlk
  refine g_sub (lv2 := [(0, .ref (ad 70)), (1, .int v1), (2, .int v2)]) [0, 1, 2] rfl ?_
  refine g_aload_n C dX8_turnedFor_0 rfl 0 rfl ?_
  refine g_iload_n C dX8_turnedFor_1 rfl 1 rfl ?_
  refine g_iload_n C dX8_turnedFor_2 rfl 2 rfl ?_
  replace h := bd_some h
  obtain ⟨r21, s22, h1, h⟩ := h
  refine g_cV (As := [.int v1, .int v2]) (rest := []) (stk2 := [.int r21]) C mf_X8_layPay ok8 rfl lk_X8_131 in_X8_layPay se_X8_layPay dX8_turnedFor_3 (hL 70 rfl) rfl rfl rfl rfl ⟨Nat.le_of_ble_eq_true rfl, Nat.le_of_ble_eq_true rfl⟩ (Nat.le_of_ble_eq_true rfl) ⟨Nat.le_refl 0, Nat.le_refl 0⟩ (ct_X8_layPay hL h1) ?_
  refine g_pop C dX8_turnedFor_6 rfl ?_
  refine g_iconst (v := (0 : Int32)) C dX8_turnedFor_7 (by decide) ?_
  refine g_istore_n (lv' := fun y => [(3, .int y), (0, .ref (ad 70)), (1, .int v1), (2, .int v2)]) C dX8_turnedFor_8 rfl (by decide) (fun y => rfl) h ?_
  clear h; intro v23 h
  refine g_bipush (v := (7 : Int32)) C dX8_turnedFor_9 (by decide) ?_
  refine g_istore (lv' := fun y => [(4, .int y), (3, .int v23), (0, .ref (ad 70)), (1, .int v1), (2, .int v2)]) C dX8_turnedFor_11 (by decide) (fun y => rfl) h ?_
  clear h; intro v24 h
  refine g_iconst (v := (0 : Int32)) C dX8_turnedFor_13 (by decide) ?_
  refine g_istore (lv' := fun y => [(5, .int y), (4, .int v24), (3, .int v23), (0, .ref (ad 70)), (1, .int v1), (2, .int v2)]) C dX8_turnedFor_14 (by decide) (fun y => rfl) h ?_
  clear h; intro v25 h
  refine g_sub (lv2 := [(0, .ref (ad 70)), (1, .int v1), (3, .int v23), (4, .int v24), (5, .int v25)]) [3, 4, 2, 1, 0] rfl ?_
  refine wlp_X8_turnedFor_16 (N := N) C hr hlk hL  _ _ _ _ _ h
-- X8_layPlan
def lpB_X8_layPlan_32 (N : Nat) (v1 : Int32) (v2 : Int32) (v3 : Int32) (v4 : Int32) (K85 : Int32 → St → Option (St)) (self : Int32 → Int32 → St → Option (St)) (v5 : Int32) (v6 : Int32) (st : St) : Option (St) :=
  (if v4 ≤ v6 then K85 v5 st else bs (F_X8_part N v3 v1 v6 st) (fun (s31 : St) => lt (bs (F_X8_costNow v2 s31) (fun (r33 : Int32) => lt (up s31 70 19 r33) (fun (s34 : St) => lt v6 (fun (v35 : Int32) => lt (v6 + (1 : Int32)) (fun (v36 : Int32) => self v35 v36 s34))))) (fun (j32 : Option (St)) => (if (s31 70 19) < 0 then j32 else bs (F_X8_costNow v2 s31) (fun (r37 : Int32) => (if (s31 70 19) ≤ r37 then lt (v6 + (1 : Int32)) (fun (v38 : Int32) => self v5 v38 s31) else j32))))))
def lp_X8_layPlan_32 (N : Nat) (v1 : Int32) (v2 : Int32) (v3 : Int32) (v4 : Int32) (K85 : Int32 → St → Option (St)) : Nat → Int32 → Int32 → St → Option (St) := itf (lpB_X8_layPlan_32 N v1 v2 v3 v4 K85) (fun _ _ _ => none)
def lpB_X8_layPlan_110 (v2 : Int32) (v6 : Int32) (K179 : St → Option (St)) (self : Int32 → St → Option (St)) (v7 : Int32) (st : St) : Option (St) :=
  (if (7 : Int32) ≤ v7 then K179 st else ck (inb v6 3) (bs (F_X8_has (st 87 v6.toNatClampNeg) v7) (fun (r45 : Int32) => (if r45 = 0 then ck (inb v7 7) (ck (inb v7 7) (lt (up st 80 v7.toNatClampNeg (st 80 v7.toNatClampNeg)) (fun (s46 : St) => lt (v7 + (1 : Int32)) (fun (v47 : Int32) => self v47 s46)))) else ck (inb v6 3) (ck (inb (((7 : Int32) * (((128 : Int32) * v2) + (st 87 v6.toNatClampNeg))) + v7) 1792) (ck (inb v7 7) (lt (up st 80 v7.toNatClampNeg (st 83 (((7 : Int32) * (((128 : Int32) * v2) + (st 87 v6.toNatClampNeg))) + v7).toNatClampNeg)) (fun (s48 : St) => lt (v7 + (1 : Int32)) (fun (v49 : Int32) => self v49 s48)))))))))
def lp_X8_layPlan_110 (v2 : Int32) (v6 : Int32) (K179 : St → Option (St)) : Nat → Int32 → St → Option (St) := itf (lpB_X8_layPlan_110 v2 v6 K179) (fun _ _ => none)
def lpB_X8_layPlan_101 (N : Nat) (v2 : Int32) (self : Int32 → St → Option (St)) (v6 : Int32) (st : St) : Option (St) :=
  (if (3 : Int32) ≤ v6 then some st else lt (0 : Int32) (fun (v44 : Int32) => lp_X8_layPlan_110 v2 v6 (fun (s50 : St) => ck (inb v6 3) (bd (F_X8_turnedFor N (s50 87 v6.toNatClampNeg) v2 s50) (fun (r51 : Int32) (s52 : St) => lt (up s52 70 20 ((s50 70 20) ||| r51)) (fun (s53 : St) => lt (v6 + (1 : Int32)) (fun (v54 : Int32) => self v54 s53))))) N v44 st))
def lp_X8_layPlan_101 (N : Nat) (v2 : Int32) : Nat → Int32 → St → Option (St) := itf (lpB_X8_layPlan_101 N v2) (fun _ _ => none)
def F_X8_layPlan (N : Nat) (v1 : Int32) (v2 : Int32) (st : St) : Option (St) :=
  bs (F_X8_laySets N v2 st) (fun (s21 : St) => bd (F_X8_usedOnes N s21) (fun (r22 : Int32) (s23 : St) => lt r22 (fun (v24 : Int32) => bs (F_X8_bits N v24) (fun (r25 : Int32) => bs (F_X8_power N v1 r25) (fun (r26 : Int32) => lt r26 (fun (v27 : Int32) => lt (0 : Int32) (fun (v28 : Int32) => lt (up s23 70 19 (-6 : Int32)) (fun (s29 : St) => lt (0 : Int32) (fun (v30 : Int32) => lp_X8_layPlan_32 N v1 v2 v24 v27 (fun (v39 : Int32) (s40 : St) => bs (F_X8_part N v24 v1 v39 s40) (fun (s41 : St) => lt (up s41 70 20 (0 : Int32)) (fun (s42 : St) => lt (0 : Int32) (fun (v43 : Int32) => lp_X8_layPlan_101 N v2  N v43 s42)))) N v28 v30 s29)))))))))
set_option maxHeartbeats 4000000 in
set_option maxRecDepth 100000 in
theorem wlp_X8_layPlan_32 (C : Cx p s m args c cX8_layPlan RX8 8 D cy ad A L) (hr : meth.sig.returnType = none) (hlk : meth.locks = false) (hL : ∀ k, prF k = true → k ∈ L) {N : Nat} {v1 : Int32} {v2 : Int32} {v3 : Int32} {v4 : Int32} {st' : St} {K85 : Int32 → St → Option (St)} (hK85 : ∀ (v5 : Int32) (st : St), K85 v5 st = some st' → Gm p l e (rmD 7) s m args below meth c D cy ad A L 8 0 0 (MQ below (QG D cy ad A L none st') args s 0 0 A) 85 [(0, .ref (ad 70)), (1, .int v1), (2, .int v2), (3, .int v3), (5, .int v5)] [] st) : ∀ (n : Nat) (v5 : Int32) (v6 : Int32) (st : St), lp_X8_layPlan_32 N v1 v2 v3 v4 K85 n v5 v6 st = some st' → Gm p l e (rmD 7) s m args below meth c D cy ad A L 8 0 0 (MQ below (QG D cy ad A L none st') args s 0 0 A) 32 [(0, .ref (ad 70)), (1, .int v1), (2, .int v2), (3, .int v3), (4, .int v4), (5, .int v5), (6, .int v6)] [] st := by
  intro n
  induction n with
  | zero => intro v5 v6 st h; cases h
  | succ n ih =>
    intro v5 v6 st h
    change lpB_X8_layPlan_32 N v1 v2 v3 v4 K85 (lp_X8_layPlan_32 N v1 v2 v3 v4 K85 n) v5 v6 st = some _ at h
    unfold lpB_X8_layPlan_32 at h
    refine g_iload C dX8_layPlan_32 6 rfl ?_
    refine g_iload C dX8_layPlan_34 4 rfl ?_
    refine g_icmp_ge (tgt := 85) C dX8_layPlan_36 (by decide) h ?_ ?_
    · clear h; intro hc36 h
      refine g_sub (lv2 := [(0, .ref (ad 70)), (1, .int v1), (2, .int v2), (3, .int v3), (5, .int v5)]) [0, 1, 2, 3, 5] rfl ?_
      exact hK85 _ _ h
    · clear h; intro hc36 h
      refine g_aload_n C dX8_layPlan_39 rfl 0 rfl ?_
      refine g_iload_n C dX8_layPlan_40 rfl 3 rfl ?_
      refine g_iload_n C dX8_layPlan_41 rfl 1 rfl ?_
      refine g_iload C dX8_layPlan_42 6 rfl ?_
      replace h := bs_some h
      obtain ⟨s31, h1, h⟩ := h
      refine g_cV (As := [.int v3, .int v1, .int v6]) (rest := []) (stk2 := []) C mf_X8_part ok8 rfl lk_X8_162 in_X8_part se_X8_part dX8_layPlan_44 (hL 70 rfl) rfl rfl rfl rfl ⟨Nat.le_of_ble_eq_true rfl, Nat.le_of_ble_eq_true rfl⟩ (Nat.le_of_ble_eq_true rfl) ⟨Nat.le_refl 0, Nat.le_refl 0⟩ (ct_X8_part hL h1) ?_
      refine g_aload_n C dX8_layPlan_47 rfl 0 rfl ?_
      refine g_getI C ok8 dX8_layPlan_48 (hL 70 rfl) rfl 19 (by decide) lk_X8_159 rfl ?_
      replace h := lt_ex h
      obtain ⟨j32, ej32, h⟩ := h
      have hj32 : j32 = some st' → Gm p l e (rmD 7) s m args below meth c D cy ad A L 8 0 0 (MQ below (QG D cy ad A L none st') args s 0 0 A) 66 [(0, .ref (ad 70)), (1, .int v1), (2, .int v2), (3, .int v3), (4, .int v4), (6, .int v6)] [] s31 := by
        intro h
        rw [ej32] at h
        skip
        refine g_aload_n C dX8_layPlan_66 rfl 0 rfl ?_
        refine g_aload_n C dX8_layPlan_67 rfl 0 rfl ?_
        refine g_iload_n C dX8_layPlan_68 rfl 2 rfl ?_
        replace h := bs_some h
        obtain ⟨r33, h1, h⟩ := h
        refine g_cV (As := [.int v2]) (rest := [.ref (ad 70)]) (stk2 := [.int r33, .ref (ad 70)]) C mf_X8_costNow ok8 rfl lk_X8_166 in_X8_costNow se_X8_costNow dX8_layPlan_69 (hL 70 rfl) rfl rfl rfl rfl ⟨Nat.le_of_ble_eq_true rfl, Nat.le_of_ble_eq_true rfl⟩ (Nat.le_of_ble_eq_true rfl) ⟨Nat.le_refl 0, Nat.le_refl 0⟩ (ct_X8_costNow hL h1) ?_
        refine g_put (ty := .int) C ok8 dX8_layPlan_72 (hL 70 rfl) rfl 19 (by decide) lk_X8_159 rfl (tyX8_ok 19 (by decide)) rfl rfl rfl h ?_
        clear h; intro s34 h
        refine g_iload C dX8_layPlan_75 5 rfl ?_
        refine g_istore (lv' := fun y => [(5, .int y), (0, .ref (ad 70)), (1, .int v1), (2, .int v2), (3, .int v3), (4, .int v4), (6, .int v6)]) C dX8_layPlan_77 (by decide) (fun y => rfl) h ?_
        clear h; intro v35 h
        refine g_iinc (lv' := fun y => [(6, .int y), (5, .int v35), (0, .ref (ad 70)), (1, .int v1), (2, .int v2), (3, .int v3), (4, .int v4)]) C dX8_layPlan_79 6 rfl rfl (by decide) (fun y => rfl) h ?_
        clear h; intro v36 h
        refine g_goto (tgt := 32) C dX8_layPlan_82 (by decide) ?_
        refine g_sub (lv2 := [(0, .ref (ad 70)), (1, .int v1), (2, .int v2), (3, .int v3), (4, .int v4), (5, .int v35), (6, .int v36)]) [2, 3, 4, 5, 6, 1, 0] rfl ?_
        exact ih _ _ _ h
      refine g_if_lt (tgt := 66) C dX8_layPlan_51 (by decide) h ?_ ?_
      · clear h; intro hc51 h
        refine g_sub (lv2 := [(0, .ref (ad 70)), (1, .int v1), (2, .int v2), (3, .int v3), (4, .int v4), (6, .int v6)]) [0, 1, 2, 3, 4, 6] rfl ?_
        exact hj32  h
      · clear h; intro hc51 h
        refine g_aload_n C dX8_layPlan_54 rfl 0 rfl ?_
        refine g_iload_n C dX8_layPlan_55 rfl 2 rfl ?_
        replace h := bs_some h
        obtain ⟨r37, h1, h⟩ := h
        refine g_cV (As := [.int v2]) (rest := []) (stk2 := [.int r37]) C mf_X8_costNow ok8 rfl lk_X8_166 in_X8_costNow se_X8_costNow dX8_layPlan_56 (hL 70 rfl) rfl rfl rfl rfl ⟨Nat.le_of_ble_eq_true rfl, Nat.le_of_ble_eq_true rfl⟩ (Nat.le_of_ble_eq_true rfl) ⟨Nat.le_refl 0, Nat.le_refl 0⟩ (ct_X8_costNow hL h1) ?_
        refine g_aload_n C dX8_layPlan_59 rfl 0 rfl ?_
        refine g_getI C ok8 dX8_layPlan_60 (hL 70 rfl) rfl 19 (by decide) lk_X8_159 rfl ?_
        refine g_icmp_ge (tgt := 79) C dX8_layPlan_63 (by decide) h ?_ ?_
        · clear h; intro hc63 h
          refine g_iinc (lv' := fun y => [(6, .int y), (0, .ref (ad 70)), (1, .int v1), (2, .int v2), (3, .int v3), (4, .int v4), (5, .int v5)]) C dX8_layPlan_79 6 rfl rfl (by decide) (fun y => rfl) h ?_
          clear h; intro v38 h
          refine g_goto (tgt := 32) C dX8_layPlan_82 (by decide) ?_
          refine g_sub (lv2 := [(0, .ref (ad 70)), (1, .int v1), (2, .int v2), (3, .int v3), (4, .int v4), (5, .int v5), (6, .int v38)]) [1, 2, 3, 4, 5, 6, 0] rfl ?_
          exact ih _ _ _ h
        · clear h; intro hc63 h
          refine g_sub (lv2 := [(0, .ref (ad 70)), (1, .int v1), (2, .int v2), (3, .int v3), (4, .int v4), (6, .int v6)]) [0, 1, 2, 3, 4, 6] rfl ?_
          exact hj32  h
set_option maxHeartbeats 4000000 in
set_option maxRecDepth 100000 in
theorem wlp_X8_layPlan_110 (C : Cx p s m args c cX8_layPlan RX8 8 D cy ad A L) (hr : meth.sig.returnType = none) (hlk : meth.locks = false) (hL : ∀ k, prF k = true → k ∈ L) {N : Nat} {v2 : Int32} {v6 : Int32} {st' : St} {K179 : St → Option (St)} (hK179 : ∀  (st : St), K179 st = some st' → Gm p l e (rmD 7) s m args below meth c D cy ad A L 8 0 0 (MQ below (QG D cy ad A L none st') args s 0 0 A) 179 [(0, .ref (ad 70)), (2, .int v2), (6, .int v6)] [] st) : ∀ (n : Nat) (v7 : Int32) (st : St), lp_X8_layPlan_110 v2 v6 K179 n v7 st = some st' → Gm p l e (rmD 7) s m args below meth c D cy ad A L 8 0 0 (MQ below (QG D cy ad A L none st') args s 0 0 A) 110 [(0, .ref (ad 70)), (2, .int v2), (6, .int v6), (7, .int v7)] [] st := by
  intro n
  induction n with
  | zero => intro v7 st h; cases h
  | succ n ih =>
    intro v7 st h
    change lpB_X8_layPlan_110 v2 v6 K179 (lp_X8_layPlan_110 v2 v6 K179 n) v7 st = some _ at h
    unfold lpB_X8_layPlan_110 at h
    refine g_iload C dX8_layPlan_110 3 rfl ?_
    refine g_bipush (v := (7 : Int32)) C dX8_layPlan_112 (by decide) ?_
    refine g_icmp_ge (tgt := 179) C dX8_layPlan_114 (by decide) h ?_ ?_
    · clear h; intro hc114 h
      refine g_sub (lv2 := [(0, .ref (ad 70)), (2, .int v2), (6, .int v6)]) [0, 1, 2] rfl ?_
      exact hK179 _ h
    · clear h; intro hc114 h
      refine g_aload_n C dX8_layPlan_117 rfl 0 rfl ?_
      refine g_getR (k2 := 80) C ok8 dX8_layPlan_118 (hL 70 rfl) rfl 10 (by decide) lk_X8_38 rfl rfl ?_
      refine g_iload C dX8_layPlan_121 3 rfl ?_
      refine g_aload_n C dX8_layPlan_123 rfl 0 rfl ?_
      refine g_getR (k2 := 87) C ok8 dX8_layPlan_124 (hL 70 rfl) rfl 18 (by decide) lk_X8_59 rfl rfl ?_
      refine g_iload C dX8_layPlan_127 2 rfl ?_
      refine g_iald C dX8_layPlan_129 (hL 87 rfl) rfl rfl h ?_
      clear h; intro h
      refine g_iload C dX8_layPlan_130 3 rfl ?_
      replace h := bs_some h
      obtain ⟨r45, h1, h⟩ := h
      refine g_cS (As := [.int (st 87 v6.toNatClampNeg), .int v7]) (rest := [.int v7, .ref (ad 80)]) (stk2 := [.int r45, .int v7, .ref (ad 80)]) C mf_X8_has lk_X8_103 sm_X8_has dX8_layPlan_132 rfl rfl rfl ⟨Nat.le_of_ble_eq_true rfl, Nat.le_of_ble_eq_true rfl⟩ (Nat.le_of_ble_eq_true rfl) ⟨Nat.le_refl 0, Nat.le_refl 0⟩ (ct_X8_has hL h1) ?_
      refine g_if_eq (tgt := 165) C dX8_layPlan_135 (by decide) h ?_ ?_
      · clear h; intro hc135 h
        refine g_aload_n C dX8_layPlan_165 rfl 0 rfl ?_
        refine g_getR (k2 := 80) C ok8 dX8_layPlan_166 (hL 70 rfl) rfl 10 (by decide) lk_X8_38 rfl rfl ?_
        refine g_iload C dX8_layPlan_169 3 rfl ?_
        refine g_iald C dX8_layPlan_171 (hL 80 rfl) rfl rfl h ?_
        clear h; intro h
        refine g_iast C dX8_layPlan_172 (hL 80 rfl) rfl rfl h ?_
        clear h; intro s46 h
        refine g_iinc (lv' := fun y => [(7, .int y), (0, .ref (ad 70)), (2, .int v2), (6, .int v6)]) C dX8_layPlan_173 3 rfl rfl (by decide) (fun y => rfl) h ?_
        clear h; intro v47 h
        refine g_goto (tgt := 110) C dX8_layPlan_176 (by decide) ?_
        refine g_sub (lv2 := [(0, .ref (ad 70)), (2, .int v2), (6, .int v6), (7, .int v47)]) [1, 2, 3, 0] rfl ?_
        exact ih _ _ h
      · clear h; intro hc135 h
        refine g_aload_n C dX8_layPlan_138 rfl 0 rfl ?_
        refine g_getR (k2 := 83) C ok8 dX8_layPlan_139 (hL 70 rfl) rfl 14 (by decide) lk_X8_47 rfl rfl ?_
        refine g_bipush (v := (7 : Int32)) C dX8_layPlan_142 (by decide) ?_
        refine g_sipush (v := (128 : Int32)) C dX8_layPlan_144 (by decide) ?_
        refine g_iload_n C dX8_layPlan_147 rfl 1 rfl ?_
        refine g_imul C dX8_layPlan_148 ?_
        refine g_aload_n C dX8_layPlan_149 rfl 0 rfl ?_
        refine g_getR (k2 := 87) C ok8 dX8_layPlan_150 (hL 70 rfl) rfl 18 (by decide) lk_X8_59 rfl rfl ?_
        refine g_iload C dX8_layPlan_153 2 rfl ?_
        refine g_iald C dX8_layPlan_155 (hL 87 rfl) rfl rfl h ?_
        clear h; intro h
        refine g_iadd C dX8_layPlan_156 ?_
        refine g_imul C dX8_layPlan_157 ?_
        refine g_iload C dX8_layPlan_158 3 rfl ?_
        refine g_iadd C dX8_layPlan_160 ?_
        refine g_iald C dX8_layPlan_161 (hL 83 rfl) rfl rfl h ?_
        clear h; intro h
        refine g_goto (tgt := 172) C dX8_layPlan_162 (by decide) ?_
        refine g_iast C dX8_layPlan_172 (hL 80 rfl) rfl rfl h ?_
        clear h; intro s48 h
        refine g_iinc (lv' := fun y => [(7, .int y), (0, .ref (ad 70)), (2, .int v2), (6, .int v6)]) C dX8_layPlan_173 3 rfl rfl (by decide) (fun y => rfl) h ?_
        clear h; intro v49 h
        refine g_goto (tgt := 110) C dX8_layPlan_176 (by decide) ?_
        refine g_sub (lv2 := [(0, .ref (ad 70)), (2, .int v2), (6, .int v6), (7, .int v49)]) [1, 2, 3, 0] rfl ?_
        exact ih _ _ h
set_option maxHeartbeats 4000000 in
set_option maxRecDepth 100000 in
theorem wlp_X8_layPlan_101 (C : Cx p s m args c cX8_layPlan RX8 8 D cy ad A L) (hr : meth.sig.returnType = none) (hlk : meth.locks = false) (hL : ∀ k, prF k = true → k ∈ L) {N : Nat} {v2 : Int32} {st' : St} : ∀ (n : Nat) (v6 : Int32) (st : St), lp_X8_layPlan_101 N v2 n v6 st = some st' → Gm p l e (rmD 7) s m args below meth c D cy ad A L 8 0 0 (MQ below (QG D cy ad A L none st') args s 0 0 A) 101 [(0, .ref (ad 70)), (2, .int v2), (6, .int v6)] [] st := by
  intro n
  induction n with
  | zero => intro v6 st h; cases h
  | succ n ih =>
    intro v6 st h
    change lpB_X8_layPlan_101 N v2 (lp_X8_layPlan_101 N v2 n) v6 st = some _ at h
    unfold lpB_X8_layPlan_101 at h
    refine g_iload C dX8_layPlan_101 2 rfl ?_
    refine g_iconst (v := (3 : Int32)) C dX8_layPlan_103 (by decide) ?_
    refine g_icmp_ge (tgt := 206) C dX8_layPlan_104 (by decide) h ?_ ?_
    · clear h; intro hc104 h
      exact g_vret C hr hlk dX8_layPlan_206 h
    · clear h; intro hc104 h
      refine g_iconst (v := (0 : Int32)) C dX8_layPlan_107 (by decide) ?_
      refine g_istore (lv' := fun y => [(7, .int y), (0, .ref (ad 70)), (2, .int v2), (6, .int v6)]) C dX8_layPlan_108 (by decide) (fun y => rfl) h ?_
      clear h; intro v44 h
      refine g_sub (lv2 := [(0, .ref (ad 70)), (2, .int v2), (6, .int v6), (7, .int v44)]) [1, 2, 3, 0] rfl ?_
      refine wlp_X8_layPlan_110 (N := N) C hr hlk hL ?_ _ _ _ h
      · intro s50 h
        refine g_aload_n C dX8_layPlan_179 rfl 0 rfl ?_
        refine g_dup C dX8_layPlan_180 rfl ?_
        refine g_getI C ok8 dX8_layPlan_181 (hL 70 rfl) rfl 20 (by decide) lk_X8_169 rfl ?_
        refine g_aload_n C dX8_layPlan_184 rfl 0 rfl ?_
        refine g_aload_n C dX8_layPlan_185 rfl 0 rfl ?_
        refine g_getR (k2 := 87) C ok8 dX8_layPlan_186 (hL 70 rfl) rfl 18 (by decide) lk_X8_59 rfl rfl ?_
        refine g_iload C dX8_layPlan_189 2 rfl ?_
        refine g_iald C dX8_layPlan_191 (hL 87 rfl) rfl rfl h ?_
        clear h; intro h
        refine g_iload_n C dX8_layPlan_192 rfl 1 rfl ?_
        replace h := bd_some h
        obtain ⟨r51, s52, h1, h⟩ := h
        refine g_cV (As := [.int (s50 87 v6.toNatClampNeg), .int v2]) (rest := [.int (s50 70 20), .ref (ad 70)]) (stk2 := [.int r51, .int (s50 70 20), .ref (ad 70)]) C mf_X8_turnedFor ok8 rfl lk_X8_172 in_X8_turnedFor se_X8_turnedFor dX8_layPlan_193 (hL 70 rfl) rfl rfl rfl rfl ⟨Nat.le_of_ble_eq_true rfl, Nat.le_of_ble_eq_true rfl⟩ (Nat.le_of_ble_eq_true rfl) ⟨Nat.le_refl 0, Nat.le_refl 0⟩ (ct_X8_turnedFor hL h1) ?_
        refine g_ior C dX8_layPlan_196 ?_
        refine g_put (ty := .int) C ok8 dX8_layPlan_197 (hL 70 rfl) rfl 20 (by decide) lk_X8_169 rfl (tyX8_ok 20 (by decide)) rfl rfl rfl h ?_
        clear h; intro s53 h
        refine g_iinc (lv' := fun y => [(6, .int y), (0, .ref (ad 70)), (2, .int v2)]) C dX8_layPlan_200 2 rfl rfl (by decide) (fun y => rfl) h ?_
        clear h; intro v54 h
        refine g_goto (tgt := 101) C dX8_layPlan_203 (by decide) ?_
        refine g_sub (lv2 := [(0, .ref (ad 70)), (2, .int v2), (6, .int v54)]) [1, 2, 0] rfl ?_
        exact ih _ _ h
set_option maxHeartbeats 4000000 in
set_option maxRecDepth 100000 in
theorem ct_X8_layPlan {N : Nat} (hL : ∀ k, prF k = true → k ∈ L) {v1 : Int32} {v2 : Int32} {st st' : St} (h : F_X8_layPlan N v1 v2 st = some st') : Ct l D cy ad A L yX8_layPlan cX8_layPlan 8 none 7 [.ref (ad 70), .int v1, .int v2] st none st' := by
  unfold F_X8_layPlan at h
  refine ct_of (own := RX8) (by decide) rfl (Nat.le_of_ble_eq_true rfl) ?_
  intro p e s m args below meth c C hr hlk
  refine g_sub (lv2 := [(0, .ref (ad 70)), (1, .int v1), (2, .int v2)]) [0, 1, 2] rfl ?_
  refine g_aload_n C dX8_layPlan_0 rfl 0 rfl ?_
  refine g_iload_n C dX8_layPlan_1 rfl 2 rfl ?_
  replace h := bs_some h
  obtain ⟨s21, h1, h⟩ := h
  refine g_cV (As := [.int v2]) (rest := []) (stk2 := []) C mf_X8_laySets ok8 rfl lk_X8_149 in_X8_laySets se_X8_laySets dX8_layPlan_2 (hL 70 rfl) rfl rfl rfl rfl ⟨Nat.le_of_ble_eq_true rfl, Nat.le_of_ble_eq_true rfl⟩ (Nat.le_of_ble_eq_true rfl) ⟨Nat.le_refl 0, Nat.le_refl 0⟩ (ct_X8_laySets hL h1) ?_
  refine g_aload_n C dX8_layPlan_5 rfl 0 rfl ?_
  replace h := bd_some h
  obtain ⟨r22, s23, h1, h⟩ := h
  refine g_cV (As := []) (rest := []) (stk2 := [.int r22]) C mf_X8_usedOnes ok8 rfl lk_X8_142 in_X8_usedOnes se_X8_usedOnes dX8_layPlan_6 (hL 70 rfl) rfl rfl rfl rfl ⟨Nat.le_of_ble_eq_true rfl, Nat.le_of_ble_eq_true rfl⟩ (Nat.le_of_ble_eq_true rfl) ⟨Nat.le_refl 0, Nat.le_refl 0⟩ (ct_X8_usedOnes hL h1) ?_
  refine g_istore_n (lv' := fun y => [(3, .int y), (0, .ref (ad 70)), (1, .int v1), (2, .int v2)]) C dX8_layPlan_9 rfl (by decide) (fun y => rfl) h ?_
  clear h; intro v24 h
  refine g_iload_n C dX8_layPlan_10 rfl 2 rfl ?_
  refine g_iload_n C dX8_layPlan_11 rfl 0 rfl ?_
  replace h := bs_some h
  obtain ⟨r25, h1, h⟩ := h
  refine g_cS (As := [.int v24]) (rest := [.int v1]) (stk2 := [.int r25, .int v1]) C mf_X8_bits lk_X8_153 sm_X8_bits dX8_layPlan_12 rfl rfl rfl ⟨Nat.le_of_ble_eq_true rfl, Nat.le_of_ble_eq_true rfl⟩ (Nat.le_of_ble_eq_true rfl) ⟨Nat.le_refl 0, Nat.le_refl 0⟩ (ct_X8_bits hL h1) ?_
  replace h := bs_some h
  obtain ⟨r26, h1, h⟩ := h
  refine g_cS (As := [.int v1, .int r25]) (rest := []) (stk2 := [.int r26]) C mf_X8_power lk_X8_156 sm_X8_power dX8_layPlan_15 rfl rfl rfl ⟨Nat.le_of_ble_eq_true rfl, Nat.le_of_ble_eq_true rfl⟩ (Nat.le_of_ble_eq_true rfl) ⟨Nat.le_refl 0, Nat.le_refl 0⟩ (ct_X8_power hL h1) ?_
  refine g_istore (lv' := fun y => [(4, .int y), (3, .int v24), (0, .ref (ad 70)), (1, .int v1), (2, .int v2)]) C dX8_layPlan_18 (by decide) (fun y => rfl) h ?_
  clear h; intro v27 h
  refine g_iconst (v := (0 : Int32)) C dX8_layPlan_20 (by decide) ?_
  refine g_istore (lv' := fun y => [(5, .int y), (4, .int v27), (3, .int v24), (0, .ref (ad 70)), (1, .int v1), (2, .int v2)]) C dX8_layPlan_21 (by decide) (fun y => rfl) h ?_
  clear h; intro v28 h
  refine g_aload_n C dX8_layPlan_23 rfl 3 rfl ?_
  refine g_bipush (v := (-6 : Int32)) C dX8_layPlan_24 (by decide) ?_
  refine g_put (ty := .int) C ok8 dX8_layPlan_26 (hL 70 rfl) rfl 19 (by decide) lk_X8_159 rfl (tyX8_ok 19 (by decide)) rfl rfl rfl h ?_
  clear h; intro s29 h
  refine g_iconst (v := (0 : Int32)) C dX8_layPlan_29 (by decide) ?_
  refine g_istore (lv' := fun y => [(6, .int y), (5, .int v28), (4, .int v27), (3, .int v24), (0, .ref (ad 70)), (1, .int v1), (2, .int v2)]) C dX8_layPlan_30 (by decide) (fun y => rfl) h ?_
  clear h; intro v30 h
  refine g_sub (lv2 := [(0, .ref (ad 70)), (1, .int v1), (2, .int v2), (3, .int v24), (4, .int v27), (5, .int v28), (6, .int v30)]) [4, 5, 6, 3, 2, 1, 0] rfl ?_
  refine wlp_X8_layPlan_32 (N := N) C hr hlk hL ?_ _ _ _ _ h
  · intro v39 s40 h
    refine g_aload_n C dX8_layPlan_85 rfl 0 rfl ?_
    refine g_iload_n C dX8_layPlan_86 rfl 3 rfl ?_
    refine g_iload_n C dX8_layPlan_87 rfl 1 rfl ?_
    refine g_iload C dX8_layPlan_88 4 rfl ?_
    replace h := bs_some h
    obtain ⟨s41, h1, h⟩ := h
    refine g_cV (As := [.int v24, .int v1, .int v39]) (rest := []) (stk2 := []) C mf_X8_part ok8 rfl lk_X8_162 in_X8_part se_X8_part dX8_layPlan_90 (hL 70 rfl) rfl rfl rfl rfl ⟨Nat.le_of_ble_eq_true rfl, Nat.le_of_ble_eq_true rfl⟩ (Nat.le_of_ble_eq_true rfl) ⟨Nat.le_refl 0, Nat.le_refl 0⟩ (ct_X8_part hL h1) ?_
    refine g_aload_n C dX8_layPlan_93 rfl 0 rfl ?_
    refine g_iconst (v := (0 : Int32)) C dX8_layPlan_94 (by decide) ?_
    refine g_put (ty := .int) C ok8 dX8_layPlan_95 (hL 70 rfl) rfl 20 (by decide) lk_X8_169 rfl (tyX8_ok 20 (by decide)) rfl rfl rfl h ?_
    clear h; intro s42 h
    refine g_iconst (v := (0 : Int32)) C dX8_layPlan_98 (by decide) ?_
    refine g_istore (lv' := fun y => [(6, .int y), (0, .ref (ad 70)), (1, .int v1), (2, .int v2), (3, .int v24), (5, .int v39)]) C dX8_layPlan_99 (by decide) (fun y => rfl) h ?_
    clear h; intro v43 h
    refine g_sub (lv2 := [(0, .ref (ad 70)), (2, .int v2), (6, .int v43)]) [1, 3, 0] rfl ?_
    refine wlp_X8_layPlan_101 (N := N) C hr hlk hL  _ _ _ h
-- X8_plan
def F_X8_plan (N : Nat) (v1 : Int32) (v2 : Int32) (v3 : Int32) (st : St) : Option (Int32 × St) :=
  bs (F_X8_isAsked v1 v2) (fun (r21 : Int32) => (if r21 = 0 then some ((-2 : Int32), st) else bs (F_X8_in v3 (0 : Int32) (2 : Int32)) (fun (r22 : Int32) => (if r22 = 0 then some ((-2 : Int32), st) else bs (F_X8_layPlan N v1 v2 st) (fun (s23 : St) => ck (inb (0 : Int32) 3) (lt (fun (x24 : Int32) => ck (inb (1 : Int32) 3) (lt (fun (x26 : Int32) => ck (inb (2 : Int32) 3) (lt (fun (x28 : Int32) => lt ((x24 + x26) + x28) (fun (v30 : Int32) => (if v3 = 0 then some ((s23 70 19), s23) else (if v3 = (1 : Int32) then some (v30, s23) else some ((s23 70 20), s23))))) (fun (j29 : Int32 → Option (Int32 × St)) => (if (s23 87 (2 : Int32).toNatClampNeg) = 0 then j29 (0 : Int32) else j29 (1 : Int32))))) (fun (j27 : Int32 → Option (Int32 × St)) => (if (s23 87 (1 : Int32).toNatClampNeg) = 0 then j27 (0 : Int32) else j27 (1 : Int32))))) (fun (j25 : Int32 → Option (Int32 × St)) => (if (s23 87 (0 : Int32).toNatClampNeg) = 0 then j25 (0 : Int32) else j25 (1 : Int32)))))))))
set_option maxHeartbeats 4000000 in
set_option maxRecDepth 100000 in
theorem ct_X8_plan {N : Nat} (hL : ∀ k, prF k = true → k ∈ L) {v1 : Int32} {v2 : Int32} {v3 : Int32} {st st' : St} {r' : Int32} (h : F_X8_plan N v1 v2 v3 st = some (r', st')) : Ct l D cy ad A L yX8_plan cX8_plan 5 (some .int) 8 [.ref (ad 70), .int v1, .int v2, .int v3] st (some (.int r')) st' := by
  unfold F_X8_plan at h
  refine ct_of (own := RX8) (by decide) rfl (Nat.le_of_ble_eq_true rfl) ?_
  intro p e s m args below meth c C hr hlk
  refine g_sub (lv2 := [(0, .ref (ad 70)), (1, .int v1), (2, .int v2), (3, .int v3)]) [0, 1, 2, 3] rfl ?_
  refine g_iload_n C dX8_plan_0 rfl 1 rfl ?_
  refine g_iload_n C dX8_plan_1 rfl 2 rfl ?_
  replace h := bs_some h
  obtain ⟨r21, h1, h⟩ := h
  refine g_cS (As := [.int v1, .int v2]) (rest := []) (stk2 := [.int r21]) C mf_X8_isAsked lk_X8_175 sm_X8_isAsked dX8_plan_2 rfl rfl rfl ⟨Nat.le_of_ble_eq_true rfl, Nat.le_of_ble_eq_true rfl⟩ (Nat.le_of_ble_eq_true rfl) ⟨Nat.le_refl 0, Nat.le_refl 0⟩ (ct_X8_isAsked hL h1) ?_
  refine g_if_eq (tgt := 17) C dX8_plan_5 (by decide) h ?_ ?_
  · clear h; intro hc5 h
    refine g_bipush (v := (-2 : Int32)) C dX8_plan_17 (by decide) ?_
    exact g_iret C hr hlk dX8_plan_19 h
  · clear h; intro hc5 h
    refine g_iload_n C dX8_plan_8 rfl 3 rfl ?_
    refine g_iconst (v := (0 : Int32)) C dX8_plan_9 (by decide) ?_
    refine g_iconst (v := (2 : Int32)) C dX8_plan_10 (by decide) ?_
    replace h := bs_some h
    obtain ⟨r22, h1, h⟩ := h
    refine g_cS (As := [.int v3, .int (0 : Int32), .int (2 : Int32)]) (rest := []) (stk2 := [.int r22]) C mf_X8_in lk_X8_83 sm_X8_in dX8_plan_11 rfl rfl rfl ⟨Nat.le_of_ble_eq_true rfl, Nat.le_of_ble_eq_true rfl⟩ (Nat.le_of_ble_eq_true rfl) ⟨Nat.le_refl 0, Nat.le_refl 0⟩ (ct_X8_in hL h1) ?_
    refine g_if_ne (tgt := 20) C dX8_plan_14 (by decide) h ?_ ?_
    · clear h; intro hc14 h
      refine g_aload_n C dX8_plan_20 rfl 0 rfl ?_
      refine g_iload_n C dX8_plan_21 rfl 1 rfl ?_
      refine g_iload_n C dX8_plan_22 rfl 2 rfl ?_
      replace h := bs_some h
      obtain ⟨s23, h1, h⟩ := h
      refine g_cV (As := [.int v1, .int v2]) (rest := []) (stk2 := []) C mf_X8_layPlan ok8 rfl lk_X8_178 in_X8_layPlan se_X8_layPlan dX8_plan_23 (hL 70 rfl) rfl rfl rfl rfl ⟨Nat.le_of_ble_eq_true rfl, Nat.le_of_ble_eq_true rfl⟩ (Nat.le_of_ble_eq_true rfl) ⟨Nat.le_refl 0, Nat.le_refl 0⟩ (ct_X8_layPlan hL h1) ?_
      refine g_aload_n C dX8_plan_26 rfl 0 rfl ?_
      refine g_getR (k2 := 87) C ok8 dX8_plan_27 (hL 70 rfl) rfl 18 (by decide) lk_X8_59 rfl rfl ?_
      refine g_iconst (v := (0 : Int32)) C dX8_plan_30 (by decide) ?_
      refine g_iald C dX8_plan_31 (hL 87 rfl) rfl rfl h ?_
      clear h; intro h
      replace h := lt_ex h
      obtain ⟨j25, ej25, h⟩ := h
      have hj25 : ∀ (x24 : Int32), j25 x24 = some (r', st') → Gm p l e (rmD 8) s m args below meth c D cy ad A L 5 0 0 (MQ below (QG D cy ad A L (some (.int r')) st') args s 0 0 A) 40 [(0, .ref (ad 70)), (3, .int v3)] [.int x24] s23 := by
        intro x24 h
        rw [ej25] at h
        dsimp only at h
        refine g_aload_n C dX8_plan_40 rfl 0 rfl ?_
        refine g_getR (k2 := 87) C ok8 dX8_plan_41 (hL 70 rfl) rfl 18 (by decide) lk_X8_59 rfl rfl ?_
        refine g_iconst (v := (1 : Int32)) C dX8_plan_44 (by decide) ?_
        refine g_iald C dX8_plan_45 (hL 87 rfl) rfl rfl h ?_
        clear h; intro h
        replace h := lt_ex h
        obtain ⟨j27, ej27, h⟩ := h
        have hj27 : ∀ (x26 : Int32), j27 x26 = some (r', st') → Gm p l e (rmD 8) s m args below meth c D cy ad A L 5 0 0 (MQ below (QG D cy ad A L (some (.int r')) st') args s 0 0 A) 54 [(0, .ref (ad 70)), (3, .int v3)] [.int x26, .int x24] s23 := by
          intro x26 h
          rw [ej27] at h
          dsimp only at h
          refine g_iadd C dX8_plan_54 ?_
          refine g_aload_n C dX8_plan_55 rfl 0 rfl ?_
          refine g_getR (k2 := 87) C ok8 dX8_plan_56 (hL 70 rfl) rfl 18 (by decide) lk_X8_59 rfl rfl ?_
          refine g_iconst (v := (2 : Int32)) C dX8_plan_59 (by decide) ?_
          refine g_iald C dX8_plan_60 (hL 87 rfl) rfl rfl h ?_
          clear h; intro h
          replace h := lt_ex h
          obtain ⟨j29, ej29, h⟩ := h
          have hj29 : ∀ (x28 : Int32), j29 x28 = some (r', st') → Gm p l e (rmD 8) s m args below meth c D cy ad A L 5 0 0 (MQ below (QG D cy ad A L (some (.int r')) st') args s 0 0 A) 69 [(0, .ref (ad 70)), (3, .int v3)] [.int x28, .int (x24 + x26)] s23 := by
            intro x28 h
            rw [ej29] at h
            dsimp only at h
            refine g_iadd C dX8_plan_69 ?_
            refine g_istore (lv' := fun y => [(4, .int y), (0, .ref (ad 70)), (3, .int v3)]) C dX8_plan_70 (by decide) (fun y => rfl) h ?_
            clear h; intro v30 h
            refine g_iload_n C dX8_plan_72 rfl 2 rfl ?_
            refine g_if_ne (tgt := 83) C dX8_plan_73 (by decide) h ?_ ?_
            · clear h; intro hc73 h
              refine g_iload_n C dX8_plan_83 rfl 2 rfl ?_
              refine g_iconst (v := (1 : Int32)) C dX8_plan_84 (by decide) ?_
              refine g_icmp_ne (tgt := 93) C dX8_plan_85 (by decide) h ?_ ?_
              · clear h; intro hc85 h
                refine g_aload_n C dX8_plan_93 rfl 1 rfl ?_
                refine g_getI C ok8 dX8_plan_94 (hL 70 rfl) rfl 20 (by decide) lk_X8_169 rfl ?_
                exact g_iret C hr hlk dX8_plan_97 h
              · clear h; intro hc85 h
                refine g_iload C dX8_plan_88 0 rfl ?_
                refine g_goto (tgt := 97) C dX8_plan_90 (by decide) ?_
                exact g_iret C hr hlk dX8_plan_97 h
            · clear h; intro hc73 h
              refine g_aload_n C dX8_plan_76 rfl 1 rfl ?_
              refine g_getI C ok8 dX8_plan_77 (hL 70 rfl) rfl 19 (by decide) lk_X8_159 rfl ?_
              refine g_goto (tgt := 97) C dX8_plan_80 (by decide) ?_
              exact g_iret C hr hlk dX8_plan_97 h
          refine g_if_eq (tgt := 68) C dX8_plan_61 (by decide) h ?_ ?_
          · clear h; intro hc61 h
            refine g_iconst (v := (0 : Int32)) C dX8_plan_68 (by decide) ?_
            refine g_sub (lv2 := [(0, .ref (ad 70)), (3, .int v3)]) [0, 1] rfl ?_
            exact hj29 _ h
          · clear h; intro hc61 h
            refine g_iconst (v := (1 : Int32)) C dX8_plan_64 (by decide) ?_
            refine g_goto (tgt := 69) C dX8_plan_65 (by decide) ?_
            refine g_sub (lv2 := [(0, .ref (ad 70)), (3, .int v3)]) [0, 1] rfl ?_
            exact hj29 _ h
        refine g_if_eq (tgt := 53) C dX8_plan_46 (by decide) h ?_ ?_
        · clear h; intro hc46 h
          refine g_iconst (v := (0 : Int32)) C dX8_plan_53 (by decide) ?_
          refine g_sub (lv2 := [(0, .ref (ad 70)), (3, .int v3)]) [0, 1] rfl ?_
          exact hj27 _ h
        · clear h; intro hc46 h
          refine g_iconst (v := (1 : Int32)) C dX8_plan_49 (by decide) ?_
          refine g_goto (tgt := 54) C dX8_plan_50 (by decide) ?_
          refine g_sub (lv2 := [(0, .ref (ad 70)), (3, .int v3)]) [0, 1] rfl ?_
          exact hj27 _ h
      refine g_if_eq (tgt := 39) C dX8_plan_32 (by decide) h ?_ ?_
      · clear h; intro hc32 h
        refine g_iconst (v := (0 : Int32)) C dX8_plan_39 (by decide) ?_
        refine g_sub (lv2 := [(0, .ref (ad 70)), (3, .int v3)]) [0, 3] rfl ?_
        exact hj25 _ h
      · clear h; intro hc32 h
        refine g_iconst (v := (1 : Int32)) C dX8_plan_35 (by decide) ?_
        refine g_goto (tgt := 40) C dX8_plan_36 (by decide) ?_
        refine g_sub (lv2 := [(0, .ref (ad 70)), (3, .int v3)]) [0, 3] rfl ?_
        exact hj25 _ h
    · clear h; intro hc14 h
      refine g_bipush (v := (-2 : Int32)) C dX8_plan_17 (by decide) ?_
      exact g_iret C hr hlk dX8_plan_19 h
-- X8_place
def F_X8_place (N : Nat) (v1 : Int32) (v2 : Int32) (v3 : Int32) (v4 : Int32) (st : St) : Option (Int32 × St) :=
  bs (F_X8_isVariable v3) (fun (r21 : Int32) => (if r21 = 0 then some ((-1 : Int32), st) else bd (F_X8_usedOnes N st) (fun (r22 : Int32) (s23 : St) => bs (F_X8_has r22 v3) (fun (r24 : Int32) => (if r24 = 0 then some ((-1 : Int32), s23) else bs (F_X8_isAsked v1 v2) (fun (r25 : Int32) => (if r25 = 0 then some ((-2 : Int32), s23) else bs (F_X8_in v4 (0 : Int32) (1 : Int32)) (fun (r26 : Int32) => (if r26 = 0 then some ((-2 : Int32), s23) else bs (F_X8_layPlan N v1 v2 s23) (fun (s27 : St) => (if v4 = 0 then ck (inb v3 7) (some ((s27 86 v3.toNatClampNeg), s27)) else ck (inb v3 7) (some ((s27 80 v3.toNatClampNeg), s27)))))))))))))
set_option maxHeartbeats 4000000 in
set_option maxRecDepth 100000 in
theorem ct_X8_place {N : Nat} (hL : ∀ k, prF k = true → k ∈ L) {v1 : Int32} {v2 : Int32} {v3 : Int32} {v4 : Int32} {st st' : St} {r' : Int32} (h : F_X8_place N v1 v2 v3 v4 st = some (r', st')) : Ct l D cy ad A L yX8_place cX8_place 5 (some .int) 8 [.ref (ad 70), .int v1, .int v2, .int v3, .int v4] st (some (.int r')) st' := by
  unfold F_X8_place at h
  refine ct_of (own := RX8) (by decide) rfl (Nat.le_of_ble_eq_true rfl) ?_
  intro p e s m args below meth c C hr hlk
  refine g_sub (lv2 := [(0, .ref (ad 70)), (1, .int v1), (2, .int v2), (3, .int v3), (4, .int v4)]) [0, 1, 2, 3, 4] rfl ?_
  refine g_iload_n C dX8_place_0 rfl 3 rfl ?_
  replace h := bs_some h
  obtain ⟨r21, h1, h⟩ := h
  refine g_cS (As := [.int v3]) (rest := []) (stk2 := [.int r21]) C mf_X8_isVariable lk_X8_91 sm_X8_isVariable dX8_place_1 rfl rfl rfl ⟨Nat.le_of_ble_eq_true rfl, Nat.le_of_ble_eq_true rfl⟩ (Nat.le_of_ble_eq_true rfl) ⟨Nat.le_refl 0, Nat.le_refl 0⟩ (ct_X8_isVariable hL h1) ?_
  refine g_if_eq (tgt := 18) C dX8_place_4 (by decide) h ?_ ?_
  · clear h; intro hc4 h
    refine g_iconst (v := (-1 : Int32)) C dX8_place_18 (by decide) ?_
    exact g_iret C hr hlk dX8_place_19 h
  · clear h; intro hc4 h
    refine g_aload_n C dX8_place_7 rfl 0 rfl ?_
    replace h := bd_some h
    obtain ⟨r22, s23, h1, h⟩ := h
    refine g_cV (As := []) (rest := []) (stk2 := [.int r22]) C mf_X8_usedOnes ok8 rfl lk_X8_142 in_X8_usedOnes se_X8_usedOnes dX8_place_8 (hL 70 rfl) rfl rfl rfl rfl ⟨Nat.le_of_ble_eq_true rfl, Nat.le_of_ble_eq_true rfl⟩ (Nat.le_of_ble_eq_true rfl) ⟨Nat.le_refl 0, Nat.le_refl 0⟩ (ct_X8_usedOnes hL h1) ?_
    refine g_iload_n C dX8_place_11 rfl 3 rfl ?_
    replace h := bs_some h
    obtain ⟨r24, h1, h⟩ := h
    refine g_cS (As := [.int r22, .int v3]) (rest := []) (stk2 := [.int r24]) C mf_X8_has lk_X8_103 sm_X8_has dX8_place_12 rfl rfl rfl ⟨Nat.le_of_ble_eq_true rfl, Nat.le_of_ble_eq_true rfl⟩ (Nat.le_of_ble_eq_true rfl) ⟨Nat.le_refl 0, Nat.le_refl 0⟩ (ct_X8_has hL h1) ?_
    refine g_if_ne (tgt := 20) C dX8_place_15 (by decide) h ?_ ?_
    · clear h; intro hc15 h
      refine g_iload_n C dX8_place_20 rfl 1 rfl ?_
      refine g_iload_n C dX8_place_21 rfl 2 rfl ?_
      replace h := bs_some h
      obtain ⟨r25, h1, h⟩ := h
      refine g_cS (As := [.int v1, .int v2]) (rest := []) (stk2 := [.int r25]) C mf_X8_isAsked lk_X8_175 sm_X8_isAsked dX8_place_22 rfl rfl rfl ⟨Nat.le_of_ble_eq_true rfl, Nat.le_of_ble_eq_true rfl⟩ (Nat.le_of_ble_eq_true rfl) ⟨Nat.le_refl 0, Nat.le_refl 0⟩ (ct_X8_isAsked hL h1) ?_
      refine g_if_eq (tgt := 38) C dX8_place_25 (by decide) h ?_ ?_
      · clear h; intro hc25 h
        refine g_bipush (v := (-2 : Int32)) C dX8_place_38 (by decide) ?_
        exact g_iret C hr hlk dX8_place_40 h
      · clear h; intro hc25 h
        refine g_iload C dX8_place_28 4 rfl ?_
        refine g_iconst (v := (0 : Int32)) C dX8_place_30 (by decide) ?_
        refine g_iconst (v := (1 : Int32)) C dX8_place_31 (by decide) ?_
        replace h := bs_some h
        obtain ⟨r26, h1, h⟩ := h
        refine g_cS (As := [.int v4, .int (0 : Int32), .int (1 : Int32)]) (rest := []) (stk2 := [.int r26]) C mf_X8_in lk_X8_83 sm_X8_in dX8_place_32 rfl rfl rfl ⟨Nat.le_of_ble_eq_true rfl, Nat.le_of_ble_eq_true rfl⟩ (Nat.le_of_ble_eq_true rfl) ⟨Nat.le_refl 0, Nat.le_refl 0⟩ (ct_X8_in hL h1) ?_
        refine g_if_ne (tgt := 41) C dX8_place_35 (by decide) h ?_ ?_
        · clear h; intro hc35 h
          refine g_aload_n C dX8_place_41 rfl 0 rfl ?_
          refine g_iload_n C dX8_place_42 rfl 1 rfl ?_
          refine g_iload_n C dX8_place_43 rfl 2 rfl ?_
          replace h := bs_some h
          obtain ⟨s27, h1, h⟩ := h
          refine g_cV (As := [.int v1, .int v2]) (rest := []) (stk2 := []) C mf_X8_layPlan ok8 rfl lk_X8_178 in_X8_layPlan se_X8_layPlan dX8_place_44 (hL 70 rfl) rfl rfl rfl rfl ⟨Nat.le_of_ble_eq_true rfl, Nat.le_of_ble_eq_true rfl⟩ (Nat.le_of_ble_eq_true rfl) ⟨Nat.le_refl 0, Nat.le_refl 0⟩ (ct_X8_layPlan hL h1) ?_
          refine g_iload C dX8_place_47 4 rfl ?_
          refine g_if_ne (tgt := 61) C dX8_place_49 (by decide) h ?_ ?_
          · clear h; intro hc49 h
            refine g_aload_n C dX8_place_61 rfl 0 rfl ?_
            refine g_getR (k2 := 80) C ok8 dX8_place_62 (hL 70 rfl) rfl 10 (by decide) lk_X8_38 rfl rfl ?_
            refine g_iload_n C dX8_place_65 rfl 3 rfl ?_
            refine g_iald C dX8_place_66 (hL 80 rfl) rfl rfl h ?_
            clear h; intro h
            exact g_iret C hr hlk dX8_place_67 h
          · clear h; intro hc49 h
            refine g_aload_n C dX8_place_52 rfl 0 rfl ?_
            refine g_getR (k2 := 86) C ok8 dX8_place_53 (hL 70 rfl) rfl 17 (by decide) lk_X8_56 rfl rfl ?_
            refine g_iload_n C dX8_place_56 rfl 3 rfl ?_
            refine g_iald C dX8_place_57 (hL 86 rfl) rfl rfl h ?_
            clear h; intro h
            refine g_goto (tgt := 67) C dX8_place_58 (by decide) ?_
            exact g_iret C hr hlk dX8_place_67 h
        · clear h; intro hc35 h
          refine g_bipush (v := (-2 : Int32)) C dX8_place_38 (by decide) ?_
          exact g_iret C hr hlk dX8_place_40 h
    · clear h; intro hc15 h
      refine g_iconst (v := (-1 : Int32)) C dX8_place_18 (by decide) ?_
      exact g_iret C hr hlk dX8_place_19 h
-- X8_step
def lpB_X8_step_69 (v3 : Int32) (st : St) (K106 : Int32 → Option (Int32 × St)) (self : Int32 → Option (Int32 × St)) (v6 : Int32) : Option (Int32 × St) :=
  (if v6 < 0 then K106 v6 else ck (inb v6 30) (ck (inb (st 79 v6.toNatClampNeg) 7) (ck (inb v3 30) (ck (inb (st 79 v3.toNatClampNeg) 7) ((if (st 86 (st 79 v6.toNatClampNeg).toNatClampNeg) = (st 86 (st 79 v3.toNatClampNeg).toNatClampNeg) then K106 v6 else lt (v6 + (-1 : Int32)) (fun (v29 : Int32) => self v29)))))))
def lp_X8_step_69 (v3 : Int32) (st : St) (K106 : Int32 → Option (Int32 × St)) : Nat → Int32 → Option (Int32 × St) := itf (lpB_X8_step_69 v3 st K106) (fun _ => none)
def F_X8_step (N : Nat) (v1 : Int32) (v2 : Int32) (v3 : Int32) (v4 : Int32) (st : St) : Option (Int32 × St) :=
  bs (F_X8_isAsked v1 v2) (fun (r21 : Int32) => (if r21 = 0 then some ((-2 : Int32), st) else bs (F_X8_in v4 (0 : Int32) (2 : Int32)) (fun (r22 : Int32) => (if r22 = 0 then some ((-2 : Int32), st) else bs (F_X8_layPlan N v1 v2 st) (fun (s23 : St) => bd (F_X8_layLine N (s23 70 20) s23) (fun (r24 : Int32) (s25 : St) => lt r24 (fun (v26 : Int32) => bs (F_X8_in v3 (0 : Int32) (v26 - (1 : Int32))) (fun (r27 : Int32) => (if r27 = 0 then some ((-6 : Int32), s25) else (if v4 = 0 then ck (inb v3 30) (some ((s25 79 v3.toNatClampNeg), s25)) else lt (v3 - (1 : Int32)) (fun (v28 : Int32) => lp_X8_step_69 v3 s25 (fun (v30 : Int32) => lt (fun (x31 : Int32) => lt x31 (fun (v33 : Int32) => (if v4 = (1 : Int32) then (if v33 = 0 then some ((0 : Int32), s25) else some ((1 : Int32), s25)) else (if v33 = 0 then ck (inb v3 30) (ck (inb (s25 79 v3.toNatClampNeg) 7) (ck (inb v30 30) (ck (inb (s25 79 v30.toNatClampNeg) 7) (some (((s25 80 (s25 79 v3.toNatClampNeg).toNatClampNeg) - (s25 80 (s25 79 v30.toNatClampNeg).toNatClampNeg)), s25))))) else some ((0 : Int32), s25))))) (fun (j32 : Int32 → Option (Int32 × St)) => (if v30 < 0 then j32 (1 : Int32) else ck (inb v30 30) (ck (inb (s25 79 v30.toNatClampNeg) 7) (ck (inb v3 30) (ck (inb (s25 79 v3.toNatClampNeg) 7) (bs (F_X8_isFar (s25 80 (s25 79 v30.toNatClampNeg).toNatClampNeg) (s25 80 (s25 79 v3.toNatClampNeg).toNatClampNeg) s25) (fun (r34 : Int32) => (if r34 = 0 then j32 (0 : Int32) else j32 (1 : Int32)))))))))) N v28)))))))))))
set_option maxHeartbeats 4000000 in
set_option maxRecDepth 100000 in
theorem wlp_X8_step_69 (C : Cx p s m args c cX8_step RX8 8 D cy ad A L) (hr : meth.sig.returnType = (some .int)) (hlk : meth.locks = false) (hL : ∀ k, prF k = true → k ∈ L) {N : Nat} {v3 : Int32} {v4 : Int32} {r' : Int32} {st' : St} {st : St} {K106 : Int32 → Option (Int32 × St)} (hK106 : ∀ (v6 : Int32), K106 v6 = some (r', st') → Gm p l e (rmD 8) s m args below meth c D cy ad A L 8 0 0 (MQ below (QG D cy ad A L (some (.int r')) st') args s 0 0 A) 106 [(0, .ref (ad 70)), (3, .int v3), (4, .int v4), (6, .int v6)] [] st) : ∀ (n : Nat) (v6 : Int32), lp_X8_step_69 v3 st K106 n v6 = some (r', st') → Gm p l e (rmD 8) s m args below meth c D cy ad A L 8 0 0 (MQ below (QG D cy ad A L (some (.int r')) st') args s 0 0 A) 69 [(0, .ref (ad 70)), (3, .int v3), (4, .int v4), (6, .int v6)] [] st := by
  intro n
  induction n with
  | zero => intro v6 h; cases h
  | succ n ih =>
    intro v6 h
    change lpB_X8_step_69 v3 st K106 (lp_X8_step_69 v3 st K106 n) v6 = some _ at h
    unfold lpB_X8_step_69 at h
    refine g_iload C dX8_step_69 3 rfl ?_
    refine g_if_lt (tgt := 106) C dX8_step_71 (by decide) h ?_ ?_
    · clear h; intro hc71 h
      refine g_sub (lv2 := [(0, .ref (ad 70)), (3, .int v3), (4, .int v4), (6, .int v6)]) [0, 1, 2, 3] rfl ?_
      exact hK106 _ h
    · clear h; intro hc71 h
      refine g_aload_n C dX8_step_74 rfl 0 rfl ?_
      refine g_getR (k2 := 86) C ok8 dX8_step_75 (hL 70 rfl) rfl 17 (by decide) lk_X8_56 rfl rfl ?_
      refine g_aload_n C dX8_step_78 rfl 0 rfl ?_
      refine g_getR (k2 := 79) C ok8 dX8_step_79 (hL 70 rfl) rfl 9 (by decide) lk_X8_35 rfl rfl ?_
      refine g_iload C dX8_step_82 3 rfl ?_
      refine g_iald C dX8_step_84 (hL 79 rfl) rfl rfl h ?_
      clear h; intro h
      refine g_iald C dX8_step_85 (hL 86 rfl) rfl rfl h ?_
      clear h; intro h
      refine g_aload_n C dX8_step_86 rfl 0 rfl ?_
      refine g_getR (k2 := 86) C ok8 dX8_step_87 (hL 70 rfl) rfl 17 (by decide) lk_X8_56 rfl rfl ?_
      refine g_aload_n C dX8_step_90 rfl 0 rfl ?_
      refine g_getR (k2 := 79) C ok8 dX8_step_91 (hL 70 rfl) rfl 9 (by decide) lk_X8_35 rfl rfl ?_
      refine g_iload_n C dX8_step_94 rfl 1 rfl ?_
      refine g_iald C dX8_step_95 (hL 79 rfl) rfl rfl h ?_
      clear h; intro h
      refine g_iald C dX8_step_96 (hL 86 rfl) rfl rfl h ?_
      clear h; intro h
      refine g_icmp_eq (tgt := 106) C dX8_step_97 (by decide) h ?_ ?_
      · clear h; intro hc97 h
        refine g_sub (lv2 := [(0, .ref (ad 70)), (3, .int v3), (4, .int v4), (6, .int v6)]) [0, 1, 2, 3] rfl ?_
        exact hK106 _ h
      · clear h; intro hc97 h
        refine g_iinc (lv' := fun y => [(6, .int y), (0, .ref (ad 70)), (3, .int v3), (4, .int v4)]) C dX8_step_100 3 rfl rfl (by decide) (fun y => rfl) h ?_
        clear h; intro v29 h
        refine g_goto (tgt := 69) C dX8_step_103 (by decide) ?_
        refine g_sub (lv2 := [(0, .ref (ad 70)), (3, .int v3), (4, .int v4), (6, .int v29)]) [1, 2, 3, 0] rfl ?_
        exact ih _ h
set_option maxHeartbeats 4000000 in
set_option maxRecDepth 100000 in
theorem ct_X8_step {N : Nat} (hL : ∀ k, prF k = true → k ∈ L) {v1 : Int32} {v2 : Int32} {v3 : Int32} {v4 : Int32} {st st' : St} {r' : Int32} (h : F_X8_step N v1 v2 v3 v4 st = some (r', st')) : Ct l D cy ad A L yX8_step cX8_step 8 (some .int) 8 [.ref (ad 70), .int v1, .int v2, .int v3, .int v4] st (some (.int r')) st' := by
  unfold F_X8_step at h
  refine ct_of (own := RX8) (by decide) rfl (Nat.le_of_ble_eq_true rfl) ?_
  intro p e s m args below meth c C hr hlk
  refine g_sub (lv2 := [(0, .ref (ad 70)), (1, .int v1), (2, .int v2), (3, .int v3), (4, .int v4)]) [0, 1, 2, 3, 4] rfl ?_
  refine g_iload_n C dX8_step_0 rfl 1 rfl ?_
  refine g_iload_n C dX8_step_1 rfl 2 rfl ?_
  replace h := bs_some h
  obtain ⟨r21, h1, h⟩ := h
  refine g_cS (As := [.int v1, .int v2]) (rest := []) (stk2 := [.int r21]) C mf_X8_isAsked lk_X8_175 sm_X8_isAsked dX8_step_2 rfl rfl rfl ⟨Nat.le_of_ble_eq_true rfl, Nat.le_of_ble_eq_true rfl⟩ (Nat.le_of_ble_eq_true rfl) ⟨Nat.le_refl 0, Nat.le_refl 0⟩ (ct_X8_isAsked hL h1) ?_
  refine g_if_eq (tgt := 18) C dX8_step_5 (by decide) h ?_ ?_
  · clear h; intro hc5 h
    refine g_bipush (v := (-2 : Int32)) C dX8_step_18 (by decide) ?_
    exact g_iret C hr hlk dX8_step_20 h
  · clear h; intro hc5 h
    refine g_iload C dX8_step_8 4 rfl ?_
    refine g_iconst (v := (0 : Int32)) C dX8_step_10 (by decide) ?_
    refine g_iconst (v := (2 : Int32)) C dX8_step_11 (by decide) ?_
    replace h := bs_some h
    obtain ⟨r22, h1, h⟩ := h
    refine g_cS (As := [.int v4, .int (0 : Int32), .int (2 : Int32)]) (rest := []) (stk2 := [.int r22]) C mf_X8_in lk_X8_83 sm_X8_in dX8_step_12 rfl rfl rfl ⟨Nat.le_of_ble_eq_true rfl, Nat.le_of_ble_eq_true rfl⟩ (Nat.le_of_ble_eq_true rfl) ⟨Nat.le_refl 0, Nat.le_refl 0⟩ (ct_X8_in hL h1) ?_
    refine g_if_ne (tgt := 21) C dX8_step_15 (by decide) h ?_ ?_
    · clear h; intro hc15 h
      refine g_aload_n C dX8_step_21 rfl 0 rfl ?_
      refine g_iload_n C dX8_step_22 rfl 1 rfl ?_
      refine g_iload_n C dX8_step_23 rfl 2 rfl ?_
      replace h := bs_some h
      obtain ⟨s23, h1, h⟩ := h
      refine g_cV (As := [.int v1, .int v2]) (rest := []) (stk2 := []) C mf_X8_layPlan ok8 rfl lk_X8_178 in_X8_layPlan se_X8_layPlan dX8_step_24 (hL 70 rfl) rfl rfl rfl rfl ⟨Nat.le_of_ble_eq_true rfl, Nat.le_of_ble_eq_true rfl⟩ (Nat.le_of_ble_eq_true rfl) ⟨Nat.le_refl 0, Nat.le_refl 0⟩ (ct_X8_layPlan hL h1) ?_
      refine g_aload_n C dX8_step_27 rfl 0 rfl ?_
      refine g_aload_n C dX8_step_28 rfl 0 rfl ?_
      refine g_getI C ok8 dX8_step_29 (hL 70 rfl) rfl 20 (by decide) lk_X8_169 rfl ?_
      replace h := bd_some h
      obtain ⟨r24, s25, h1, h⟩ := h
      refine g_cV (As := [.int (s23 70 20)]) (rest := []) (stk2 := [.int r24]) C mf_X8_layLine ok8 rfl lk_X8_111 in_X8_layLine se_X8_layLine dX8_step_32 (hL 70 rfl) rfl rfl rfl rfl ⟨Nat.le_of_ble_eq_true rfl, Nat.le_of_ble_eq_true rfl⟩ (Nat.le_of_ble_eq_true rfl) ⟨Nat.le_refl 0, Nat.le_refl 0⟩ (ct_X8_layLine hL h1) ?_
      refine g_istore (lv' := fun y => [(5, .int y), (0, .ref (ad 70)), (1, .int v1), (2, .int v2), (3, .int v3), (4, .int v4)]) C dX8_step_35 (by decide) (fun y => rfl) h ?_
      clear h; intro v26 h
      refine g_iload_n C dX8_step_37 rfl 4 rfl ?_
      refine g_iconst (v := (0 : Int32)) C dX8_step_38 (by decide) ?_
      refine g_iload C dX8_step_39 0 rfl ?_
      refine g_iconst (v := (1 : Int32)) C dX8_step_41 (by decide) ?_
      refine g_isub C dX8_step_42 ?_
      replace h := bs_some h
      obtain ⟨r27, h1, h⟩ := h
      refine g_cS (As := [.int v3, .int (0 : Int32), .int (v26 - (1 : Int32))]) (rest := []) (stk2 := [.int r27]) C mf_X8_in lk_X8_83 sm_X8_in dX8_step_43 rfl rfl rfl ⟨Nat.le_of_ble_eq_true rfl, Nat.le_of_ble_eq_true rfl⟩ (Nat.le_of_ble_eq_true rfl) ⟨Nat.le_refl 0, Nat.le_refl 0⟩ (ct_X8_in hL h1) ?_
      refine g_if_ne (tgt := 52) C dX8_step_46 (by decide) h ?_ ?_
      · clear h; intro hc46 h
        refine g_iload C dX8_step_52 5 rfl ?_
        refine g_if_ne (tgt := 64) C dX8_step_54 (by decide) h ?_ ?_
        · clear h; intro hc54 h
          refine g_iload_n C dX8_step_64 rfl 4 rfl ?_
          refine g_iconst (v := (1 : Int32)) C dX8_step_65 (by decide) ?_
          refine g_isub C dX8_step_66 ?_
          refine g_istore (lv' := fun y => [(6, .int y), (5, .int v26), (0, .ref (ad 70)), (1, .int v1), (2, .int v2), (3, .int v3), (4, .int v4)]) C dX8_step_67 (by decide) (fun y => rfl) h ?_
          clear h; intro v28 h
          refine g_sub (lv2 := [(0, .ref (ad 70)), (3, .int v3), (4, .int v4), (6, .int v28)]) [2, 5, 6, 0] rfl ?_
          refine wlp_X8_step_69 (N := N) C hr hlk hL ?_ _ _ h
          · intro v30 h
            refine g_iload C dX8_step_106 3 rfl ?_
            replace h := lt_ex h
            obtain ⟨j32, ej32, h⟩ := h
            have hj32 : ∀ (x31 : Int32), j32 x31 = some (r', st') → Gm p l e (rmD 8) s m args below meth c D cy ad A L 8 0 0 (MQ below (QG D cy ad A L (some (.int r')) st') args s 0 0 A) 146 [(0, .ref (ad 70)), (3, .int v3), (4, .int v4), (6, .int v30)] [.int x31] s25 := by
              intro x31 h
              rw [ej32] at h
              dsimp only at h
              refine g_istore (lv' := fun y => [(7, .int y), (0, .ref (ad 70)), (3, .int v3), (4, .int v4), (6, .int v30)]) C dX8_step_146 (by decide) (fun y => rfl) h ?_
              clear h; intro v33 h
              refine g_iload C dX8_step_148 3 rfl ?_
              refine g_iconst (v := (1 : Int32)) C dX8_step_150 (by decide) ?_
              refine g_icmp_ne (tgt := 167) C dX8_step_151 (by decide) h ?_ ?_
              · clear h; intro hc151 h
                refine g_iload C dX8_step_167 0 rfl ?_
                refine g_if_eq (tgt := 176) C dX8_step_169 (by decide) h ?_ ?_
                · clear h; intro hc169 h
                  refine g_aload_n C dX8_step_176 rfl 1 rfl ?_
                  refine g_getR (k2 := 80) C ok8 dX8_step_177 (hL 70 rfl) rfl 10 (by decide) lk_X8_38 rfl rfl ?_
                  refine g_aload_n C dX8_step_180 rfl 1 rfl ?_
                  refine g_getR (k2 := 79) C ok8 dX8_step_181 (hL 70 rfl) rfl 9 (by decide) lk_X8_35 rfl rfl ?_
                  refine g_iload_n C dX8_step_184 rfl 2 rfl ?_
                  refine g_iald C dX8_step_185 (hL 79 rfl) rfl rfl h ?_
                  clear h; intro h
                  refine g_iald C dX8_step_186 (hL 80 rfl) rfl rfl h ?_
                  clear h; intro h
                  refine g_aload_n C dX8_step_187 rfl 1 rfl ?_
                  refine g_getR (k2 := 80) C ok8 dX8_step_188 (hL 70 rfl) rfl 10 (by decide) lk_X8_38 rfl rfl ?_
                  refine g_aload_n C dX8_step_191 rfl 1 rfl ?_
                  refine g_getR (k2 := 79) C ok8 dX8_step_192 (hL 70 rfl) rfl 9 (by decide) lk_X8_35 rfl rfl ?_
                  refine g_iload C dX8_step_195 4 rfl ?_
                  refine g_iald C dX8_step_197 (hL 79 rfl) rfl rfl h ?_
                  clear h; intro h
                  refine g_iald C dX8_step_198 (hL 80 rfl) rfl rfl h ?_
                  clear h; intro h
                  refine g_isub C dX8_step_199 ?_
                  exact g_iret C hr hlk dX8_step_200 h
                · clear h; intro hc169 h
                  refine g_iconst (v := (0 : Int32)) C dX8_step_172 (by decide) ?_
                  refine g_goto (tgt := 200) C dX8_step_173 (by decide) ?_
                  exact g_iret C hr hlk dX8_step_200 h
              · clear h; intro hc151 h
                refine g_iload C dX8_step_154 0 rfl ?_
                refine g_if_eq (tgt := 163) C dX8_step_156 (by decide) h ?_ ?_
                · clear h; intro hc156 h
                  refine g_iconst (v := (0 : Int32)) C dX8_step_163 (by decide) ?_
                  refine g_goto (tgt := 200) C dX8_step_164 (by decide) ?_
                  exact g_iret C hr hlk dX8_step_200 h
                · clear h; intro hc156 h
                  refine g_iconst (v := (1 : Int32)) C dX8_step_159 (by decide) ?_
                  refine g_goto (tgt := 200) C dX8_step_160 (by decide) ?_
                  exact g_iret C hr hlk dX8_step_200 h
            refine g_if_lt (tgt := 141) C dX8_step_108 (by decide) h ?_ ?_
            · clear h; intro hc108 h
              refine g_iconst (v := (1 : Int32)) C dX8_step_141 (by decide) ?_
              refine g_goto (tgt := 146) C dX8_step_142 (by decide) ?_
              refine g_sub (lv2 := [(0, .ref (ad 70)), (3, .int v3), (4, .int v4), (6, .int v30)]) [0, 1, 2, 3] rfl ?_
              exact hj32 _ h
            · clear h; intro hc108 h
              refine g_aload_n C dX8_step_111 rfl 0 rfl ?_
              refine g_aload_n C dX8_step_112 rfl 0 rfl ?_
              refine g_getR (k2 := 80) C ok8 dX8_step_113 (hL 70 rfl) rfl 10 (by decide) lk_X8_38 rfl rfl ?_
              refine g_aload_n C dX8_step_116 rfl 0 rfl ?_
              refine g_getR (k2 := 79) C ok8 dX8_step_117 (hL 70 rfl) rfl 9 (by decide) lk_X8_35 rfl rfl ?_
              refine g_iload C dX8_step_120 3 rfl ?_
              refine g_iald C dX8_step_122 (hL 79 rfl) rfl rfl h ?_
              clear h; intro h
              refine g_iald C dX8_step_123 (hL 80 rfl) rfl rfl h ?_
              clear h; intro h
              refine g_aload_n C dX8_step_124 rfl 0 rfl ?_
              refine g_getR (k2 := 80) C ok8 dX8_step_125 (hL 70 rfl) rfl 10 (by decide) lk_X8_38 rfl rfl ?_
              refine g_aload_n C dX8_step_128 rfl 0 rfl ?_
              refine g_getR (k2 := 79) C ok8 dX8_step_129 (hL 70 rfl) rfl 9 (by decide) lk_X8_35 rfl rfl ?_
              refine g_iload_n C dX8_step_132 rfl 1 rfl ?_
              refine g_iald C dX8_step_133 (hL 79 rfl) rfl rfl h ?_
              clear h; intro h
              refine g_iald C dX8_step_134 (hL 80 rfl) rfl rfl h ?_
              clear h; intro h
              replace h := bs_some h
              obtain ⟨r34, h1, h⟩ := h
              refine g_cV (As := [.int (s25 80 (s25 79 v30.toNatClampNeg).toNatClampNeg), .int (s25 80 (s25 79 v3.toNatClampNeg).toNatClampNeg)]) (rest := []) (stk2 := [.int r34]) C mf_X8_isFar ok8 rfl lk_X8_118 in_X8_isFar se_X8_isFar dX8_step_135 (hL 70 rfl) rfl rfl rfl rfl ⟨Nat.le_of_ble_eq_true rfl, Nat.le_of_ble_eq_true rfl⟩ (Nat.le_of_ble_eq_true rfl) ⟨Nat.le_refl 0, Nat.le_refl 0⟩ (ct_X8_isFar hL h1) ?_
              refine g_if_eq (tgt := 145) C dX8_step_138 (by decide) h ?_ ?_
              · clear h; intro hc138 h
                refine g_iconst (v := (0 : Int32)) C dX8_step_145 (by decide) ?_
                refine g_sub (lv2 := [(0, .ref (ad 70)), (3, .int v3), (4, .int v4), (6, .int v30)]) [0, 1, 2, 3] rfl ?_
                exact hj32 _ h
              · clear h; intro hc138 h
                refine g_iconst (v := (1 : Int32)) C dX8_step_141 (by decide) ?_
                refine g_goto (tgt := 146) C dX8_step_142 (by decide) ?_
                refine g_sub (lv2 := [(0, .ref (ad 70)), (3, .int v3), (4, .int v4), (6, .int v30)]) [0, 1, 2, 3] rfl ?_
                exact hj32 _ h
        · clear h; intro hc54 h
          refine g_aload_n C dX8_step_57 rfl 1 rfl ?_
          refine g_getR (k2 := 79) C ok8 dX8_step_58 (hL 70 rfl) rfl 9 (by decide) lk_X8_35 rfl rfl ?_
          refine g_iload_n C dX8_step_61 rfl 4 rfl ?_
          refine g_iald C dX8_step_62 (hL 79 rfl) rfl rfl h ?_
          clear h; intro h
          exact g_iret C hr hlk dX8_step_63 h
      · clear h; intro hc46 h
        refine g_bipush (v := (-6 : Int32)) C dX8_step_49 (by decide) ?_
        exact g_iret C hr hlk dX8_step_51 h
    · clear h; intro hc15 h
      refine g_bipush (v := (-2 : Int32)) C dX8_step_18 (by decide) ?_
      exact g_iret C hr hlk dX8_step_20 h
-- X8_run
def lpB_X8_run_19 (self : Int32 → St → Option (Int32 × St)) (v3 : Int32) (st : St) : Option (Int32 × St) :=
  (if (st 70 0) ≤ v3 then some ((st 70 19), st) else ck (inb v3 10) (ck (inb (st 73 v3.toNatClampNeg) 7) (lt (st 75 (st 73 v3.toNatClampNeg).toNatClampNeg) (fun (v24 : Int32) => ck (inb v3 10) (ck (inb (st 74 v3.toNatClampNeg) 7) (lt (st 75 (st 74 v3.toNatClampNeg).toNatClampNeg) (fun (v25 : Int32) => ck (inb v3 10) (ck (inb v3 10) ((if (st 71 v3.toNatClampNeg) = 0 then ck (inb (st 72 v3.toNatClampNeg) 7) (lt (up st 75 (st 72 v3.toNatClampNeg).toNatClampNeg v24) (fun (s36 : St) => lt (v3 + (1 : Int32)) (fun (v37 : Int32) => self v37 s36))) else ck (inb v3 10) ((if (st 71 v3.toNatClampNeg) = (1 : Int32) then ck (inb (st 72 v3.toNatClampNeg) 7) (lt (up st 75 (st 72 v3.toNatClampNeg).toNatClampNeg (v24 + v25)) (fun (s34 : St) => lt (v3 + (1 : Int32)) (fun (v35 : Int32) => self v35 s34))) else ck (inb v3 10) ((if (st 71 v3.toNatClampNeg) = (2 : Int32) then ck (inb (st 72 v3.toNatClampNeg) 7) (lt (up st 75 (st 72 v3.toNatClampNeg).toNatClampNeg (v24 - v25)) (fun (s32 : St) => lt (v3 + (1 : Int32)) (fun (v33 : Int32) => self v33 s32))) else ck (inb v3 10) ((if (st 71 v3.toNatClampNeg) = (3 : Int32) then ck (inb (st 72 v3.toNatClampNeg) 7) (lt (up st 75 (st 72 v3.toNatClampNeg).toNatClampNeg (v24 * v25)) (fun (s30 : St) => lt (v3 + (1 : Int32)) (fun (v31 : Int32) => self v31 s30))) else (if v25 ≤ v24 then ck (inb (st 72 v3.toNatClampNeg) 7) (lt (up st 75 (st 72 v3.toNatClampNeg).toNatClampNeg v25) (fun (s26 : St) => lt (v3 + (1 : Int32)) (fun (v27 : Int32) => self v27 s26))) else ck (inb (st 72 v3.toNatClampNeg) 7) (lt (up st 75 (st 72 v3.toNatClampNeg).toNatClampNeg v24) (fun (s28 : St) => lt (v3 + (1 : Int32)) (fun (v29 : Int32) => self v29 s28))))))))))))))))))))
def lp_X8_run_19 : Nat → Int32 → St → Option (Int32 × St) := itf (lpB_X8_run_19) (fun _ _ => none)
def F_X8_run (N : Nat) (v1 : Int32) (v2 : Int32) (st : St) : Option (Int32 × St) :=
  bs (F_X8_isAsked v1 v2) (fun (r21 : Int32) => (if r21 = 0 then some ((-2 : Int32), st) else bs (F_X8_layPlan N v1 v2 st) (fun (s22 : St) => lt (0 : Int32) (fun (v23 : Int32) => lp_X8_run_19  N v23 s22))))
set_option maxHeartbeats 4000000 in
set_option maxRecDepth 100000 in
theorem wlp_X8_run_19 (C : Cx p s m args c cX8_run RX8 6 D cy ad A L) (hr : meth.sig.returnType = (some .int)) (hlk : meth.locks = false) (hL : ∀ k, prF k = true → k ∈ L) {N : Nat} {r' : Int32} {st' : St} : ∀ (n : Nat) (v3 : Int32) (st : St), lp_X8_run_19 n v3 st = some (r', st') → Gm p l e (rmD 8) s m args below meth c D cy ad A L 6 0 0 (MQ below (QG D cy ad A L (some (.int r')) st') args s 0 0 A) 19 [(0, .ref (ad 70)), (3, .int v3)] [] st := by
  intro n
  induction n with
  | zero => intro v3 st h; cases h
  | succ n ih =>
    intro v3 st h
    change lpB_X8_run_19 (lp_X8_run_19 n) v3 st = some _ at h
    unfold lpB_X8_run_19 at h
    refine g_iload_n C dX8_run_19 rfl 1 rfl ?_
    refine g_aload_n C dX8_run_20 rfl 0 rfl ?_
    refine g_getI C ok8 dX8_run_21 (hL 70 rfl) rfl 0 (by decide) lk_X8_87 rfl ?_
    refine g_icmp_ge (tgt := 152) C dX8_run_24 (by decide) h ?_ ?_
    · clear h; intro hc24 h
      refine g_aload_n C dX8_run_152 rfl 0 rfl ?_
      refine g_getI C ok8 dX8_run_153 (hL 70 rfl) rfl 19 (by decide) lk_X8_159 rfl ?_
      exact g_iret C hr hlk dX8_run_156 h
    · clear h; intro hc24 h
      refine g_aload_n C dX8_run_27 rfl 0 rfl ?_
      refine g_getR (k2 := 75) C ok8 dX8_run_28 (hL 70 rfl) rfl 5 (by decide) lk_X8_22 rfl rfl ?_
      refine g_aload_n C dX8_run_31 rfl 0 rfl ?_
      refine g_getR (k2 := 73) C ok8 dX8_run_32 (hL 70 rfl) rfl 3 (by decide) lk_X8_16 rfl rfl ?_
      refine g_iload_n C dX8_run_35 rfl 1 rfl ?_
      refine g_iald C dX8_run_36 (hL 73 rfl) rfl rfl h ?_
      clear h; intro h
      refine g_iald C dX8_run_37 (hL 75 rfl) rfl rfl h ?_
      clear h; intro h
      refine g_istore (lv' := fun y => [(4, .int y), (0, .ref (ad 70)), (3, .int v3)]) C dX8_run_38 (by decide) (fun y => rfl) h ?_
      clear h; intro v24 h
      refine g_aload_n C dX8_run_40 rfl 1 rfl ?_
      refine g_getR (k2 := 75) C ok8 dX8_run_41 (hL 70 rfl) rfl 5 (by decide) lk_X8_22 rfl rfl ?_
      refine g_aload_n C dX8_run_44 rfl 1 rfl ?_
      refine g_getR (k2 := 74) C ok8 dX8_run_45 (hL 70 rfl) rfl 4 (by decide) lk_X8_19 rfl rfl ?_
      refine g_iload_n C dX8_run_48 rfl 2 rfl ?_
      refine g_iald C dX8_run_49 (hL 74 rfl) rfl rfl h ?_
      clear h; intro h
      refine g_iald C dX8_run_50 (hL 75 rfl) rfl rfl h ?_
      clear h; intro h
      refine g_istore (lv' := fun y => [(5, .int y), (4, .int v24), (0, .ref (ad 70)), (3, .int v3)]) C dX8_run_51 (by decide) (fun y => rfl) h ?_
      clear h; intro v25 h
      refine g_aload_n C dX8_run_53 rfl 2 rfl ?_
      refine g_getR (k2 := 75) C ok8 dX8_run_54 (hL 70 rfl) rfl 5 (by decide) lk_X8_22 rfl rfl ?_
      refine g_aload_n C dX8_run_57 rfl 2 rfl ?_
      refine g_getR (k2 := 72) C ok8 dX8_run_58 (hL 70 rfl) rfl 2 (by decide) lk_X8_13 rfl rfl ?_
      refine g_iload_n C dX8_run_61 rfl 3 rfl ?_
      refine g_iald C dX8_run_62 (hL 72 rfl) rfl rfl h ?_
      clear h; intro h
      refine g_aload_n C dX8_run_63 rfl 2 rfl ?_
      refine g_getR (k2 := 71) C ok8 dX8_run_64 (hL 70 rfl) rfl 1 (by decide) lk_X8_7 rfl rfl ?_
      refine g_iload_n C dX8_run_67 rfl 3 rfl ?_
      refine g_iald C dX8_run_68 (hL 71 rfl) rfl rfl h ?_
      clear h; intro h
      refine g_if_ne (tgt := 77) C dX8_run_69 (by decide) h ?_ ?_
      · clear h; intro hc69 h
        refine g_aload_n C dX8_run_77 rfl 2 rfl ?_
        refine g_getR (k2 := 71) C ok8 dX8_run_78 (hL 70 rfl) rfl 1 (by decide) lk_X8_7 rfl rfl ?_
        refine g_iload_n C dX8_run_81 rfl 3 rfl ?_
        refine g_iald C dX8_run_82 (hL 71 rfl) rfl rfl h ?_
        clear h; intro h
        refine g_iconst (v := (1 : Int32)) C dX8_run_83 (by decide) ?_
        refine g_icmp_ne (tgt := 95) C dX8_run_84 (by decide) h ?_ ?_
        · clear h; intro hc84 h
          refine g_aload_n C dX8_run_95 rfl 2 rfl ?_
          refine g_getR (k2 := 71) C ok8 dX8_run_96 (hL 70 rfl) rfl 1 (by decide) lk_X8_7 rfl rfl ?_
          refine g_iload_n C dX8_run_99 rfl 3 rfl ?_
          refine g_iald C dX8_run_100 (hL 71 rfl) rfl rfl h ?_
          clear h; intro h
          refine g_iconst (v := (2 : Int32)) C dX8_run_101 (by decide) ?_
          refine g_icmp_ne (tgt := 113) C dX8_run_102 (by decide) h ?_ ?_
          · clear h; intro hc102 h
            refine g_aload_n C dX8_run_113 rfl 2 rfl ?_
            refine g_getR (k2 := 71) C ok8 dX8_run_114 (hL 70 rfl) rfl 1 (by decide) lk_X8_7 rfl rfl ?_
            refine g_iload_n C dX8_run_117 rfl 3 rfl ?_
            refine g_iald C dX8_run_118 (hL 71 rfl) rfl rfl h ?_
            clear h; intro h
            refine g_iconst (v := (3 : Int32)) C dX8_run_119 (by decide) ?_
            refine g_icmp_ne (tgt := 131) C dX8_run_120 (by decide) h ?_ ?_
            · clear h; intro hc120 h
              refine g_iload C dX8_run_131 1 rfl ?_
              refine g_iload C dX8_run_133 0 rfl ?_
              refine g_icmp_ge (tgt := 143) C dX8_run_135 (by decide) h ?_ ?_
              · clear h; intro hc135 h
                refine g_iload C dX8_run_143 0 rfl ?_
                refine g_iast C dX8_run_145 (hL 75 rfl) rfl rfl h ?_
                clear h; intro s26 h
                refine g_iinc (lv' := fun y => [(3, .int y), (5, .int v25), (4, .int v24), (0, .ref (ad 70))]) C dX8_run_146 3 rfl rfl (by decide) (fun y => rfl) h ?_
                clear h; intro v27 h
                refine g_goto (tgt := 19) C dX8_run_149 (by decide) ?_
                refine g_sub (lv2 := [(0, .ref (ad 70)), (3, .int v27)]) [3, 0] rfl ?_
                exact ih _ _ h
              · clear h; intro hc135 h
                refine g_iload C dX8_run_138 1 rfl ?_
                refine g_goto (tgt := 145) C dX8_run_140 (by decide) ?_
                refine g_iast C dX8_run_145 (hL 75 rfl) rfl rfl h ?_
                clear h; intro s28 h
                refine g_iinc (lv' := fun y => [(3, .int y), (5, .int v25), (4, .int v24), (0, .ref (ad 70))]) C dX8_run_146 3 rfl rfl (by decide) (fun y => rfl) h ?_
                clear h; intro v29 h
                refine g_goto (tgt := 19) C dX8_run_149 (by decide) ?_
                refine g_sub (lv2 := [(0, .ref (ad 70)), (3, .int v29)]) [3, 0] rfl ?_
                exact ih _ _ h
            · clear h; intro hc120 h
              refine g_iload C dX8_run_123 1 rfl ?_
              refine g_iload C dX8_run_125 0 rfl ?_
              refine g_imul C dX8_run_127 ?_
              refine g_goto (tgt := 145) C dX8_run_128 (by decide) ?_
              refine g_iast C dX8_run_145 (hL 75 rfl) rfl rfl h ?_
              clear h; intro s30 h
              refine g_iinc (lv' := fun y => [(3, .int y), (5, .int v25), (4, .int v24), (0, .ref (ad 70))]) C dX8_run_146 3 rfl rfl (by decide) (fun y => rfl) h ?_
              clear h; intro v31 h
              refine g_goto (tgt := 19) C dX8_run_149 (by decide) ?_
              refine g_sub (lv2 := [(0, .ref (ad 70)), (3, .int v31)]) [3, 0] rfl ?_
              exact ih _ _ h
          · clear h; intro hc102 h
            refine g_iload C dX8_run_105 1 rfl ?_
            refine g_iload C dX8_run_107 0 rfl ?_
            refine g_isub C dX8_run_109 ?_
            refine g_goto (tgt := 145) C dX8_run_110 (by decide) ?_
            refine g_iast C dX8_run_145 (hL 75 rfl) rfl rfl h ?_
            clear h; intro s32 h
            refine g_iinc (lv' := fun y => [(3, .int y), (5, .int v25), (4, .int v24), (0, .ref (ad 70))]) C dX8_run_146 3 rfl rfl (by decide) (fun y => rfl) h ?_
            clear h; intro v33 h
            refine g_goto (tgt := 19) C dX8_run_149 (by decide) ?_
            refine g_sub (lv2 := [(0, .ref (ad 70)), (3, .int v33)]) [3, 0] rfl ?_
            exact ih _ _ h
        · clear h; intro hc84 h
          refine g_iload C dX8_run_87 1 rfl ?_
          refine g_iload C dX8_run_89 0 rfl ?_
          refine g_iadd C dX8_run_91 ?_
          refine g_goto (tgt := 145) C dX8_run_92 (by decide) ?_
          refine g_iast C dX8_run_145 (hL 75 rfl) rfl rfl h ?_
          clear h; intro s34 h
          refine g_iinc (lv' := fun y => [(3, .int y), (5, .int v25), (4, .int v24), (0, .ref (ad 70))]) C dX8_run_146 3 rfl rfl (by decide) (fun y => rfl) h ?_
          clear h; intro v35 h
          refine g_goto (tgt := 19) C dX8_run_149 (by decide) ?_
          refine g_sub (lv2 := [(0, .ref (ad 70)), (3, .int v35)]) [3, 0] rfl ?_
          exact ih _ _ h
      · clear h; intro hc69 h
        refine g_iload C dX8_run_72 1 rfl ?_
        refine g_goto (tgt := 145) C dX8_run_74 (by decide) ?_
        refine g_iast C dX8_run_145 (hL 75 rfl) rfl rfl h ?_
        clear h; intro s36 h
        refine g_iinc (lv' := fun y => [(3, .int y), (5, .int v25), (4, .int v24), (0, .ref (ad 70))]) C dX8_run_146 3 rfl rfl (by decide) (fun y => rfl) h ?_
        clear h; intro v37 h
        refine g_goto (tgt := 19) C dX8_run_149 (by decide) ?_
        refine g_sub (lv2 := [(0, .ref (ad 70)), (3, .int v37)]) [3, 0] rfl ?_
        exact ih _ _ h
set_option maxHeartbeats 4000000 in
set_option maxRecDepth 100000 in
theorem ct_X8_run {N : Nat} (hL : ∀ k, prF k = true → k ∈ L) {v1 : Int32} {v2 : Int32} {st st' : St} {r' : Int32} (h : F_X8_run N v1 v2 st = some (r', st')) : Ct l D cy ad A L yX8_run cX8_run 6 (some .int) 8 [.ref (ad 70), .int v1, .int v2] st (some (.int r')) st' := by
  unfold F_X8_run at h
  refine ct_of (own := RX8) (by decide) rfl (Nat.le_of_ble_eq_true rfl) ?_
  intro p e s m args below meth c C hr hlk
  refine g_sub (lv2 := [(0, .ref (ad 70)), (1, .int v1), (2, .int v2)]) [0, 1, 2] rfl ?_
  refine g_iload_n C dX8_run_0 rfl 1 rfl ?_
  refine g_iload_n C dX8_run_1 rfl 2 rfl ?_
  replace h := bs_some h
  obtain ⟨r21, h1, h⟩ := h
  refine g_cS (As := [.int v1, .int v2]) (rest := []) (stk2 := [.int r21]) C mf_X8_isAsked lk_X8_175 sm_X8_isAsked dX8_run_2 rfl rfl rfl ⟨Nat.le_of_ble_eq_true rfl, Nat.le_of_ble_eq_true rfl⟩ (Nat.le_of_ble_eq_true rfl) ⟨Nat.le_refl 0, Nat.le_refl 0⟩ (ct_X8_isAsked hL h1) ?_
  refine g_if_ne (tgt := 11) C dX8_run_5 (by decide) h ?_ ?_
  · clear h; intro hc5 h
    refine g_aload_n C dX8_run_11 rfl 0 rfl ?_
    refine g_iload_n C dX8_run_12 rfl 1 rfl ?_
    refine g_iload_n C dX8_run_13 rfl 2 rfl ?_
    replace h := bs_some h
    obtain ⟨s22, h1, h⟩ := h
    refine g_cV (As := [.int v1, .int v2]) (rest := []) (stk2 := []) C mf_X8_layPlan ok8 rfl lk_X8_178 in_X8_layPlan se_X8_layPlan dX8_run_14 (hL 70 rfl) rfl rfl rfl rfl ⟨Nat.le_of_ble_eq_true rfl, Nat.le_of_ble_eq_true rfl⟩ (Nat.le_of_ble_eq_true rfl) ⟨Nat.le_refl 0, Nat.le_refl 0⟩ (ct_X8_layPlan hL h1) ?_
    refine g_iconst (v := (0 : Int32)) C dX8_run_17 (by decide) ?_
    refine g_istore_n (lv' := fun y => [(3, .int y), (0, .ref (ad 70)), (1, .int v1), (2, .int v2)]) C dX8_run_18 rfl (by decide) (fun y => rfl) h ?_
    clear h; intro v23 h
    refine g_sub (lv2 := [(0, .ref (ad 70)), (3, .int v23)]) [1, 0] rfl ?_
    refine wlp_X8_run_19 (N := N) C hr hlk hL  _ _ _ h
  · clear h; intro hc5 h
    refine g_bipush (v := (-2 : Int32)) C dX8_run_8 (by decide) ?_
    exact g_iret C hr hlk dX8_run_10 h
end SM
