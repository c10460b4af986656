section SM
variable {p : Program} {l : Launch} {e : Env} {s : State} {m : MethodId} {args : Array Value} {below : List Frame} {meth : Method} {c : Code} {D : va_G} {cy : Nat → ClassId} {ad : Nat → Nat} {A : Nat → Prop} {L : List Nat}
-- X7_step
def F_X7_step (N : Nat) (v1 : Int32) (v2 : Int32) (v3 : Int32) (v4 : Int32) (st : St) : Option (Int32 × St) :=
  bs (F_X7_isPlan v1 v2) (fun (r21 : Int32) => (if r21 = 0 then some ((-2 : Int32), st) else (if v4 < 0 then some ((-2 : Int32), st) else (if v4 ≤ (2 : Int32) then bd (F_X3_planFor N v1 v2 st) (fun (r22 : Nat) (s23 : St) => ck (decide (kd r22 = 2)) (bs (F_X4_look N (s23 r22 3) s23) (fun (s24 : St) => bs (F_X4_has v3 s24) (fun (r25 : Int32) => (if r25 = 0 then some ((-6 : Int32), s24) else ck (inb v3 30) (lt (s24 24 v3.toNatClampNeg) (fun (v26 : Int32) => (if v4 = 0 then some (v26, s24) else bs (F_X4_before N v3 (r22 + 1) s24) (fun (r27 : Int32) => lt r27 (fun (v28 : Int32) => lt (fun (x29 : Int32) => lt x29 (fun (v31 : Int32) => (if v4 = (1 : Int32) then (if v31 = 0 then some ((0 : Int32), s24) else some ((1 : Int32), s24)) else (if v31 = 0 then ck (inb v26 7) (ck (inb v28 7) (some (((s24 (r22 + 2) v26.toNatClampNeg) - (s24 (r22 + 2) v28.toNatClampNeg)), s24))) else some ((0 : Int32), s24))))) (fun (j30 : Int32 → Option (Int32 × St)) => (if v28 < 0 then j30 (1 : Int32) else ck (inb v28 7) (ck (inb v26 7) (bs (F_X5_isFar (s24 (r22 + 2) v28.toNatClampNeg) (s24 (r22 + 2) v26.toNatClampNeg) s24) (fun (r32 : Int32) => (if r32 = 0 then j30 (0 : Int32) else j30 (1 : Int32))))))))))))))))) else some ((-2 : Int32), st)))))
set_option maxHeartbeats 4000000 in
set_option maxRecDepth 100000 in
theorem ct_X7_step {N : Nat} (hL : ∀ k, prF k = true → k ∈ L) {v1 : Int32} {v2 : Int32} {v3 : Int32} {v4 : Int32} {st st' : St} {r' : Int32} (h : F_X7_step N v1 v2 v3 v4 st = some (r', st')) : Ct l D cy ad A L yX7_step cX7_step 9 (some .int) 25 [.ref (ad 0), .int v1, .int v2, .int v3, .int v4] st (some (.int r')) st' := by
  unfold F_X7_step at h
  refine ct_of (own := RX7) (by decide) rfl (Nat.le_of_ble_eq_true rfl) ?_
  intro p e s m args below meth c C hr hlk
  refine g_sub (lv2 := [(0, .ref (ad 0)), (1, .int v1), (2, .int v2), (3, .int v3), (4, .int v4)]) [0, 1, 2, 3, 4] rfl ?_
  refine g_iload_n C dX7_step_0 rfl 1 rfl ?_
  refine g_iload_n C dX7_step_1 rfl 2 rfl ?_
  replace h := bs_some h
  obtain ⟨r21, h1, h⟩ := h
  refine g_cS (As := [.int v1, .int v2]) (rest := []) (stk2 := [.int r21]) C mf_X7_isPlan lk_X7_105 sm_X7_isPlan dX7_step_2 rfl rfl rfl ⟨Nat.le_of_ble_eq_true rfl, Nat.le_of_ble_eq_true rfl⟩ (Nat.le_of_ble_eq_true rfl) ⟨Nat.le_refl 0, Nat.le_refl 0⟩ (ct_X7_isPlan hL h1) ?_
  refine g_if_eq (tgt := 19) C dX7_step_5 (by decide) h ?_ ?_
  · clear h; intro hc5 h
    refine g_bipush (v := (-2 : Int32)) C dX7_step_19 (by decide) ?_
    exact g_iret C hr hlk dX7_step_21 h
  · clear h; intro hc5 h
    refine g_iload C dX7_step_8 4 rfl ?_
    refine g_if_lt (tgt := 19) C dX7_step_10 (by decide) h ?_ ?_
    · clear h; intro hc10 h
      refine g_bipush (v := (-2 : Int32)) C dX7_step_19 (by decide) ?_
      exact g_iret C hr hlk dX7_step_21 h
    · clear h; intro hc10 h
      refine g_iload C dX7_step_13 4 rfl ?_
      refine g_iconst (v := (2 : Int32)) C dX7_step_15 (by decide) ?_
      refine g_icmp_le (tgt := 22) C dX7_step_16 (by decide) h ?_ ?_
      · clear h; intro hc16 h
        refine g_aload_n C dX7_step_22 rfl 0 rfl ?_
        refine g_getR (k2 := 32) C ok7 dX7_step_23 (hL 0 rfl) rfl 5 (by decide) lk_X7_43 rfl rfl ?_
        refine g_iload_n C dX7_step_26 rfl 1 rfl ?_
        refine g_iload_n C dX7_step_27 rfl 2 rfl ?_
        replace h := bd_some h
        obtain ⟨r22, s23, h1, h⟩ := h
        replace h := ck_some h
        obtain ⟨hgd, h⟩ := h
        have kd_r22 : kd r22 = 2 := of_decide_eq_true hgd
        refine g_cV (As := [.int v1, .int v2]) (rest := []) (stk2 := [.ref (ad r22)]) C mf_X3_planFor ok3 rfl lk_X7_109 in_X3_planFor se_X3_planFor dX7_step_28 (hL 32 rfl) rfl rfl rfl rfl ⟨Nat.le_of_ble_eq_true rfl, Nat.le_of_ble_eq_true rfl⟩ (Nat.le_of_ble_eq_true rfl) ⟨Nat.le_refl 0, Nat.le_refl 0⟩ (ct_X3_planFor hL h1) ?_
        refine g_astore (lv' := [(5, .ref (ad r22)), (0, .ref (ad 0)), (1, .int v1), (2, .int v2), (3, .int v3), (4, .int v4)]) C dX7_step_31 (by decide) rfl ?_
        refine g_aload_n C dX7_step_33 rfl 1 rfl ?_
        refine g_getR (k2 := 23) C ok7 dX7_step_34 (hL 0 rfl) rfl 3 (by decide) lk_X7_23 rfl rfl ?_
        refine g_aload_n C dX7_step_37 rfl 1 rfl ?_
        refine g_getR (k2 := 1) C ok7 dX7_step_38 (hL 0 rfl) rfl 0 (by decide) lk_X7_12 rfl rfl ?_
        refine g_aload C dX7_step_41 0 rfl ?_
        refine g_getI C ok2 dX7_step_43 (hL _ (prF_of kd_r22 (by decide))) kd_r22 3 (by decide) lk_X7_121 rfl ?_
        replace h := bs_some h
        obtain ⟨s24, h1, h⟩ := h
        refine g_cV (As := [.ref (ad 1), .int (s23 r22 3)]) (rest := []) (stk2 := []) C mf_X4_look ok4 rfl lk_X7_97 in_X4_look se_X4_look dX7_step_46 (hL 23 rfl) rfl rfl rfl rfl ⟨Nat.le_of_ble_eq_true rfl, Nat.le_of_ble_eq_true rfl⟩ (Nat.le_of_ble_eq_true rfl) ⟨Nat.le_refl 0, Nat.le_refl 0⟩ (ct_X4_look hL h1) ?_
        refine g_aload_n C dX7_step_49 rfl 1 rfl ?_
        refine g_getR (k2 := 23) C ok7 dX7_step_50 (hL 0 rfl) rfl 3 (by decide) lk_X7_23 rfl rfl ?_
        refine g_iload_n C dX7_step_53 rfl 4 rfl ?_
        replace h := bs_some h
        obtain ⟨r25, h1, h⟩ := h
        refine g_cV (As := [.int v3]) (rest := []) (stk2 := [.int r25]) C mf_X4_has ok4 rfl lk_X7_101 in_X4_has se_X4_has dX7_step_54 (hL 23 rfl) rfl rfl rfl rfl ⟨Nat.le_of_ble_eq_true rfl, Nat.le_of_ble_eq_true rfl⟩ (Nat.le_of_ble_eq_true rfl) ⟨Nat.le_refl 0, Nat.le_refl 0⟩ (ct_X4_has hL h1) ?_
        refine g_if_ne (tgt := 63) C dX7_step_57 (by decide) h ?_ ?_
        · clear h; intro hc57 h
          refine g_aload_n C dX7_step_63 rfl 1 rfl ?_
          refine g_getR (k2 := 23) C ok7 dX7_step_64 (hL 0 rfl) rfl 3 (by decide) lk_X7_23 rfl rfl ?_
          refine g_getR (k2 := 24) C ok4 dX7_step_67 (hL 23 rfl) rfl 0 (by decide) lk_X7_102 rfl rfl ?_
          refine g_iload_n C dX7_step_70 rfl 4 rfl ?_
          refine g_iald C dX7_step_71 (hL 24 rfl) rfl rfl h ?_
          clear h; intro h
          refine g_istore (lv' := fun y => [(6, .int y), (5, .ref (ad r22)), (0, .ref (ad 0)), (1, .int v1), (2, .int v2), (3, .int v3), (4, .int v4)]) C dX7_step_72 (by decide) (fun y => rfl) h ?_
          clear h; intro v26 h
          refine g_iload C dX7_step_74 6 rfl ?_
          refine g_if_ne (tgt := 82) C dX7_step_76 (by decide) h ?_ ?_
          · clear h; intro hc76 h
            refine g_aload_n C dX7_step_82 rfl 2 rfl ?_
            refine g_getR (k2 := 23) C ok7 dX7_step_83 (hL 0 rfl) rfl 3 (by decide) lk_X7_23 rfl rfl ?_
            refine g_iload_n C dX7_step_86 rfl 5 rfl ?_
            refine g_aload C dX7_step_87 1 rfl ?_
            refine g_getR (k2 := (r22 + 1)) C ok2 dX7_step_89 (hL _ (prF_of kd_r22 (by decide))) kd_r22 4 (by decide) lk_X7_128 rfl rfl ?_
            replace h := bs_some h
            obtain ⟨r27, h1, h⟩ := h
            refine g_cV (As := [.int v3, .ref (ad (r22 + 1))]) (rest := []) (stk2 := [.int r27]) C mf_X4_before ok4 rfl lk_X7_134 in_X4_before se_X4_before dX7_step_92 (hL 23 rfl) rfl rfl rfl rfl ⟨Nat.le_of_ble_eq_true rfl, Nat.le_of_ble_eq_true rfl⟩ (Nat.le_of_ble_eq_true rfl) ⟨Nat.le_refl 0, Nat.le_refl 0⟩ (ct_X4_before hL h1) ?_
            refine g_istore (lv' := fun y => [(7, .int y), (6, .int v26), (5, .ref (ad r22)), (0, .ref (ad 0)), (1, .int v1), (2, .int v2), (3, .int v3), (4, .int v4)]) C dX7_step_95 (by decide) (fun y => rfl) h ?_
            clear h; intro v28 h
            refine g_iload C dX7_step_97 0 rfl ?_
            replace h := lt_ex h
            obtain ⟨j30, ej30, h⟩ := h
            have hj30 : ∀ (x29 : Int32), j30 x29 = some (r', st') → Gm p l e (rmD 25) s m args below meth c D cy ad A L 9 0 0 (MQ below (QG D cy ad A L (some (.int r')) st') args s 0 0 A) 133 [(4, .int v4), (5, .ref (ad r22)), (6, .int v26), (7, .int v28)] [.int x29] s24 := by
              intro x29 h
              rw [ej30] at h
              dsimp only at h
              refine g_istore (lv' := fun y => [(8, .int y), (4, .int v4), (5, .ref (ad r22)), (6, .int v26), (7, .int v28)]) C dX7_step_133 (by decide) (fun y => rfl) h ?_
              clear h; intro v31 h
              refine g_iload C dX7_step_135 1 rfl ?_
              refine g_iconst (v := (1 : Int32)) C dX7_step_137 (by decide) ?_
              refine g_icmp_ne (tgt := 152) C dX7_step_138 (by decide) h ?_ ?_
              · clear h; intro hc138 h
                refine g_iload C dX7_step_152 0 rfl ?_
                refine g_if_eq (tgt := 161) C dX7_step_154 (by decide) h ?_ ?_
                · clear h; intro hc154 h
                  refine g_aload C dX7_step_161 2 rfl ?_
                  refine g_getR (k2 := (r22 + 2)) C ok2 dX7_step_163 (hL _ (prF_of kd_r22 (by decide))) kd_r22 5 (by decide) lk_X7_131 rfl rfl ?_
                  refine g_iload C dX7_step_166 3 rfl ?_
                  refine g_iald C dX7_step_168 (hL _ (prF_of (kdP2 kd_r22) (by decide))) (kdP2 kd_r22) (lnP2 kd_r22) h ?_
                  clear h; intro h
                  refine g_aload C dX7_step_169 2 rfl ?_
                  refine g_getR (k2 := (r22 + 2)) C ok2 dX7_step_171 (hL _ (prF_of kd_r22 (by decide))) kd_r22 5 (by decide) lk_X7_131 rfl rfl ?_
                  refine g_iload C dX7_step_174 4 rfl ?_
                  refine g_iald C dX7_step_176 (hL _ (prF_of (kdP2 kd_r22) (by decide))) (kdP2 kd_r22) (lnP2 kd_r22) h ?_
                  clear h; intro h
                  refine g_isub C dX7_step_177 ?_
                  exact g_iret C hr hlk dX7_step_178 h
                · clear h; intro hc154 h
                  refine g_iconst (v := (0 : Int32)) C dX7_step_157 (by decide) ?_
                  refine g_goto (tgt := 178) C dX7_step_158 (by decide) ?_
                  exact g_iret C hr hlk dX7_step_178 h
              · clear h; intro hc138 h
                refine g_iload C dX7_step_141 0 rfl ?_
                refine g_if_eq (tgt := 150) C dX7_step_143 (by decide) h ?_ ?_
                · clear h; intro hc143 h
                  refine g_iconst (v := (0 : Int32)) C dX7_step_150 (by decide) ?_
                  exact g_iret C hr hlk dX7_step_151 h
                · clear h; intro hc143 h
                  refine g_iconst (v := (1 : Int32)) C dX7_step_146 (by decide) ?_
                  refine g_goto (tgt := 151) C dX7_step_147 (by decide) ?_
                  exact g_iret C hr hlk dX7_step_151 h
            refine g_if_lt (tgt := 128) C dX7_step_99 (by decide) h ?_ ?_
            · clear h; intro hc99 h
              refine g_iconst (v := (1 : Int32)) C dX7_step_128 (by decide) ?_
              refine g_goto (tgt := 133) C dX7_step_129 (by decide) ?_
              refine g_sub (lv2 := [(4, .int v4), (5, .ref (ad r22)), (6, .int v26), (7, .int v28)]) [7, 2, 1, 0] rfl ?_
              exact hj30 _ h
            · clear h; intro hc99 h
              refine g_aload_n C dX7_step_102 rfl 3 rfl ?_
              refine g_getR (k2 := 1) C ok7 dX7_step_103 (hL 0 rfl) rfl 0 (by decide) lk_X7_12 rfl rfl ?_
              refine g_aload C dX7_step_106 2 rfl ?_
              refine g_getR (k2 := (r22 + 2)) C ok2 dX7_step_108 (hL _ (prF_of kd_r22 (by decide))) kd_r22 5 (by decide) lk_X7_131 rfl rfl ?_
              refine g_iload C dX7_step_111 0 rfl ?_
              refine g_iald C dX7_step_113 (hL _ (prF_of (kdP2 kd_r22) (by decide))) (kdP2 kd_r22) (lnP2 kd_r22) h ?_
              clear h; intro h
              refine g_aload C dX7_step_114 2 rfl ?_
              refine g_getR (k2 := (r22 + 2)) C ok2 dX7_step_116 (hL _ (prF_of kd_r22 (by decide))) kd_r22 5 (by decide) lk_X7_131 rfl rfl ?_
              refine g_iload C dX7_step_119 1 rfl ?_
              refine g_iald C dX7_step_121 (hL _ (prF_of (kdP2 kd_r22) (by decide))) (kdP2 kd_r22) (lnP2 kd_r22) h ?_
              clear h; intro h
              replace h := bs_some h
              obtain ⟨r32, h1, h⟩ := h
              refine g_cV (As := [.int (s24 (r22 + 2) v28.toNatClampNeg), .int (s24 (r22 + 2) v26.toNatClampNeg)]) (rest := []) (stk2 := [.int r32]) C mf_X5_isFar ok5 rfl lk_X7_138 in_X5_isFar se_X5_isFar dX7_step_122 (hL 1 rfl) rfl rfl rfl rfl ⟨Nat.le_of_ble_eq_true rfl, Nat.le_of_ble_eq_true rfl⟩ (Nat.le_of_ble_eq_true rfl) ⟨Nat.le_refl 0, Nat.le_refl 0⟩ (ct_X5_isFar (fun k hk => hL k (prM_F hk)) h1) ?_
              refine g_if_eq (tgt := 132) C dX7_step_125 (by decide) h ?_ ?_
              · clear h; intro hc125 h
                refine g_iconst (v := (0 : Int32)) C dX7_step_132 (by decide) ?_
                refine g_sub (lv2 := [(4, .int v4), (5, .ref (ad r22)), (6, .int v26), (7, .int v28)]) [7, 2, 1, 0] rfl ?_
                exact hj30 _ h
              · clear h; intro hc125 h
                refine g_iconst (v := (1 : Int32)) C dX7_step_128 (by decide) ?_
                refine g_goto (tgt := 133) C dX7_step_129 (by decide) ?_
                refine g_sub (lv2 := [(4, .int v4), (5, .ref (ad r22)), (6, .int v26), (7, .int v28)]) [7, 2, 1, 0] rfl ?_
                exact hj30 _ h
          · clear h; intro hc76 h
            refine g_iload C dX7_step_79 0 rfl ?_
            exact g_iret C hr hlk dX7_step_81 h
        · clear h; intro hc57 h
          refine g_bipush (v := (-6 : Int32)) C dX7_step_60 (by decide) ?_
          exact g_iret C hr hlk dX7_step_62 h
      · clear h; intro hc16 h
        refine g_bipush (v := (-2 : Int32)) C dX7_step_19 (by decide) ?_
        exact g_iret C hr hlk dX7_step_21 h
-- X5_result
def F_X5_result (v0 : Int32) (v1 : Int32) (v2 : Int32) : Option (Int32) :=
  if v0 = (1 : Int32) then some (v1 + v2) else (if v0 = (2 : Int32) then some (v1 - v2) else (if v0 = (3 : Int32) then some (v1 * v2) else (if v0 = (4 : Int32) then some (if v2 < v1 then v2 else v1) else (some v1))))
set_option maxHeartbeats 4000000 in
set_option maxRecDepth 100000 in
theorem ct_X5_result (hL : ∀ k, prF k = true → k ∈ L) {v0 : Int32} {v1 : Int32} {v2 : Int32} {st : St} {r' : Int32} (h : F_X5_result v0 v1 v2 = some r') : Ct l D cy ad A L yX5_result cX5_result 3 (some .int) 1 [.int v0, .int v1, .int v2] st (some (.int r')) st := by
  unfold F_X5_result at h
  refine ct_of (own := RX5) (by decide) rfl (Nat.le_of_ble_eq_true rfl) ?_
  intro p e s m args below meth c C hr hlk
  refine g_sub (lv2 := [(0, .int v0), (1, .int v1), (2, .int v2)]) [0, 1, 2] rfl ?_
  refine g_iload_n C dX5_result_0 rfl 0 rfl ?_
  by_cases hs1 : v0 = (1 : Int32)
  · rw [if_pos hs1] at h
    refine g_swIn (k := (1 : Int32)) (tgt := 32) C dX5_result_1 hs1 (by decide) (by decide) rfl (by decide) ?_
    refine g_iload_n C dX5_result_32 rfl 1 rfl ?_
    refine g_iload_n C dX5_result_33 rfl 2 rfl ?_
    refine g_iadd C dX5_result_34 ?_
    exact g_iretP C hr hlk dX5_result_35 h
  · rw [if_neg hs1] at h
    by_cases hs2 : v0 = (2 : Int32)
    · rw [if_pos hs2] at h
      refine g_swIn (k := (2 : Int32)) (tgt := 36) C dX5_result_1 hs2 (by decide) (by decide) rfl (by decide) ?_
      refine g_iload_n C dX5_result_36 rfl 1 rfl ?_
      refine g_iload_n C dX5_result_37 rfl 2 rfl ?_
      refine g_isub C dX5_result_38 ?_
      exact g_iretP C hr hlk dX5_result_39 h
    · rw [if_neg hs2] at h
      by_cases hs3 : v0 = (3 : Int32)
      · rw [if_pos hs3] at h
        refine g_swIn (k := (3 : Int32)) (tgt := 40) C dX5_result_1 hs3 (by decide) (by decide) rfl (by decide) ?_
        refine g_iload_n C dX5_result_40 rfl 1 rfl ?_
        refine g_iload_n C dX5_result_41 rfl 2 rfl ?_
        refine g_imul C dX5_result_42 ?_
        exact g_iretP C hr hlk dX5_result_43 h
      · rw [if_neg hs3] at h
        by_cases hs4 : v0 = (4 : Int32)
        · rw [if_pos hs4] at h
          refine g_swIn (k := (4 : Int32)) (tgt := 44) C dX5_result_1 hs4 (by decide) (by decide) rfl (by decide) ?_
          refine g_iload_n C dX5_result_44 rfl 1 rfl ?_
          refine g_iload_n C dX5_result_45 rfl 2 rfl ?_
          refine g_min C lk_X5_53 sm_min ini_Math cd_min ⟨Nat.le_of_ble_eq_true rfl, Nat.le_of_ble_eq_true rfl, Nat.le_refl 0, Nat.le_refl 0⟩ dX5_result_46 ?_
          exact g_iretP C hr hlk dX5_result_49 h
        · rw [if_neg hs4] at h
          have hn1 : ¬ v0.toInt = 1 := fun q => hs1 (Int32.toInt_inj.mp (by rw [q]; decide))
          have hn2 : ¬ v0.toInt = 2 := fun q => hs2 (Int32.toInt_inj.mp (by rw [q]; decide))
          have hn3 : ¬ v0.toInt = 3 := fun q => hs3 (Int32.toInt_inj.mp (by rw [q]; decide))
          have hn4 : ¬ v0.toInt = 4 := fun q => hs4 (Int32.toInt_inj.mp (by rw [q]; decide))
          refine g_swOut (tgt := 50) C dX5_result_1 (by omega) (by decide) ?_
          refine g_iload_n C dX5_result_50 rfl 1 rfl ?_
          exact g_iretP C hr hlk dX5_result_51 h
-- X5_execute
def lpB_X5_execute_2 (self : Int32 → St → Option (St)) (v1 : Int32) (st : St) : Option (St) :=
  (if (st 1 0) ≤ v1 then some st else ck (inb v1 10) (ck (inb v1 10) (ck (inb v1 10) (ck (inb (st 4 v1.toNatClampNeg) 7) (ck (inb v1 10) (ck (inb (st 5 v1.toNatClampNeg) 7) (bs (F_X5_result (st 2 v1.toNatClampNeg) (st 6 (st 4 v1.toNatClampNeg).toNatClampNeg) (st 6 (st 5 v1.toNatClampNeg).toNatClampNeg)) (fun (r22 : Int32) => ck (inb (st 3 v1.toNatClampNeg) 7) (lt (up st 6 (st 3 v1.toNatClampNeg).toNatClampNeg r22) (fun (s23 : St) => lt (v1 + (1 : Int32)) (fun (v24 : Int32) => self v24 s23)))))))))))
def lp_X5_execute_2 : Nat → Int32 → St → Option (St) := itf (lpB_X5_execute_2) (fun _ _ => none)
def F_X5_execute (N : Nat) (st : St) : Option (St) :=
  lt (0 : Int32) (fun (v21 : Int32) => lp_X5_execute_2  N v21 st)
set_option maxHeartbeats 4000000 in
set_option maxRecDepth 100000 in
theorem wlp_X5_execute_2 (C : Cx p s m args c cX5_execute RX5 2 D cy ad A L) (hr : meth.sig.returnType = none) (hlk : meth.locks = false) (hL : ∀ k, prF k = true → k ∈ L) {N : Nat} {st' : St} : ∀ (n : Nat) (v1 : Int32) (st : St), lp_X5_execute_2 n v1 st = some st' → Gm p l e (rmD 2) s m args below meth c D cy ad A L 2 0 0 (MQ below (QG D cy ad A L none st') args s 0 0 A) 2 [(0, .ref (ad 1)), (1, .int v1)] [] st := by
  intro n
  induction n with
  | zero => intro v1 st h; cases h
  | succ n ih =>
    intro v1 st h
    change lpB_X5_execute_2 (lp_X5_execute_2 n) v1 st = some _ at h
    unfold lpB_X5_execute_2 at h
    refine g_iload_n C dX5_execute_2 rfl 1 rfl ?_
    refine g_aload_n C dX5_execute_3 rfl 0 rfl ?_
    refine g_getI C ok5 dX5_execute_4 (hL 1 rfl) rfl 0 (by decide) lk_X5_34 rfl ?_
    refine g_icmp_ge (tgt := 58) C dX5_execute_7 (by decide) h ?_ ?_
    · clear h; intro hc7 h
      exact g_vret C hr hlk dX5_execute_58 h
    · clear h; intro hc7 h
      refine g_aload_n C dX5_execute_10 rfl 0 rfl ?_
      refine g_getR (k2 := 6) C ok5 dX5_execute_11 (hL 1 rfl) rfl 6 (by decide) lk_X5_28 rfl rfl ?_
      refine g_aload_n C dX5_execute_14 rfl 0 rfl ?_
      refine g_getR (k2 := 3) C ok5 dX5_execute_15 (hL 1 rfl) rfl 2 (by decide) lk_X5_15 rfl rfl ?_
      refine g_iload_n C dX5_execute_18 rfl 1 rfl ?_
      refine g_iald C dX5_execute_19 (hL 3 rfl) rfl rfl h ?_
      clear h; intro h
      refine g_aload_n C dX5_execute_20 rfl 0 rfl ?_
      refine g_getR (k2 := 2) C ok5 dX5_execute_21 (hL 1 rfl) rfl 1 (by decide) lk_X5_9 rfl rfl ?_
      refine g_iload_n C dX5_execute_24 rfl 1 rfl ?_
      refine g_iald C dX5_execute_25 (hL 2 rfl) rfl rfl h ?_
      clear h; intro h
      refine g_aload_n C dX5_execute_26 rfl 0 rfl ?_
      refine g_getR (k2 := 6) C ok5 dX5_execute_27 (hL 1 rfl) rfl 6 (by decide) lk_X5_28 rfl rfl ?_
      refine g_aload_n C dX5_execute_30 rfl 0 rfl ?_
      refine g_getR (k2 := 4) C ok5 dX5_execute_31 (hL 1 rfl) rfl 3 (by decide) lk_X5_18 rfl rfl ?_
      refine g_iload_n C dX5_execute_34 rfl 1 rfl ?_
      refine g_iald C dX5_execute_35 (hL 4 rfl) rfl rfl h ?_
      clear h; intro h
      refine g_iald C dX5_execute_36 (hL 6 rfl) rfl rfl h ?_
      clear h; intro h
      refine g_aload_n C dX5_execute_37 rfl 0 rfl ?_
      refine g_getR (k2 := 6) C ok5 dX5_execute_38 (hL 1 rfl) rfl 6 (by decide) lk_X5_28 rfl rfl ?_
      refine g_aload_n C dX5_execute_41 rfl 0 rfl ?_
      refine g_getR (k2 := 5) C ok5 dX5_execute_42 (hL 1 rfl) rfl 4 (by decide) lk_X5_21 rfl rfl ?_
      refine g_iload_n C dX5_execute_45 rfl 1 rfl ?_
      refine g_iald C dX5_execute_46 (hL 5 rfl) rfl rfl h ?_
      clear h; intro h
      refine g_iald C dX5_execute_47 (hL 6 rfl) rfl rfl h ?_
      clear h; intro h
      replace h := bs_some h
      obtain ⟨r22, h1, h⟩ := h
      refine g_cS (As := [.int (st 2 v1.toNatClampNeg), .int (st 6 (st 4 v1.toNatClampNeg).toNatClampNeg), .int (st 6 (st 5 v1.toNatClampNeg).toNatClampNeg)]) (rest := [.int (st 3 v1.toNatClampNeg), .ref (ad 6)]) (stk2 := [.int r22, .int (st 3 v1.toNatClampNeg), .ref (ad 6)]) C mf_X5_result lk_X5_49 sm_X5_result dX5_execute_48 rfl rfl rfl ⟨Nat.le_of_ble_eq_true rfl, Nat.le_of_ble_eq_true rfl⟩ (Nat.le_of_ble_eq_true rfl) ⟨Nat.le_refl 0, Nat.le_refl 0⟩ (ct_X5_result hL h1) ?_
      refine g_iast C dX5_execute_51 (hL 6 rfl) rfl rfl h ?_
      clear h; intro s23 h
      refine g_iinc (lv' := fun y => [(1, .int y), (0, .ref (ad 1))]) C dX5_execute_52 1 rfl rfl (by decide) (fun y => rfl) h ?_
      clear h; intro v24 h
      refine g_goto (tgt := 2) C dX5_execute_55 (by decide) ?_
      refine g_sub (lv2 := [(0, .ref (ad 1)), (1, .int v24)]) [1, 0] rfl ?_
      exact ih _ _ h
set_option maxHeartbeats 4000000 in
set_option maxRecDepth 100000 in
theorem ct_X5_execute {N : Nat} (hL : ∀ k, prF k = true → k ∈ L) {st st' : St} (h : F_X5_execute N st = some st') : Ct l D cy ad A L yX5_execute cX5_execute 2 none 2 [.ref (ad 1)] st none st' := by
  unfold F_X5_execute at h
  refine ct_of (own := RX5) (by decide) rfl (Nat.le_of_ble_eq_true rfl) ?_
  intro p e s m args below meth c C hr hlk
  refine g_sub (lv2 := [(0, .ref (ad 1))]) [0] rfl ?_
  refine g_iconst (v := (0 : Int32)) C dX5_execute_0 (by decide) ?_
  refine g_istore_n (lv' := fun y => [(1, .int y), (0, .ref (ad 1))]) C dX5_execute_1 rfl (by decide) (fun y => rfl) h ?_
  clear h; intro v21 h
  refine g_sub (lv2 := [(0, .ref (ad 1)), (1, .int v21)]) [1, 0] rfl ?_
  refine wlp_X5_execute_2 (N := N) C hr hlk hL  _ _ _ h
-- X7_run
def F_X7_run (N : Nat) (v1 : Int32) (v2 : Int32) (st : St) : Option (Int32 × St) :=
  bs (F_X7_isPlan v1 v2) (fun (r21 : Int32) => (if r21 = 0 then some ((-2 : Int32), st) else bs (F_X5_execute N st) (fun (s22 : St) => bd (F_X3_planFor N v1 v2 s22) (fun (r23 : Nat) (s24 : St) => ck (decide (kd r23 = 2)) (some ((s24 r23 1), s24))))))
set_option maxHeartbeats 4000000 in
set_option maxRecDepth 100000 in
theorem ct_X7_run {N : Nat} (hL : ∀ k, prF k = true → k ∈ L) {v1 : Int32} {v2 : Int32} {st st' : St} {r' : Int32} (h : F_X7_run N v1 v2 st = some (r', st')) : Ct l D cy ad A L yX7_run cX7_run 3 (some .int) 25 [.ref (ad 0), .int v1, .int v2] st (some (.int r')) st' := by
  unfold F_X7_run at h
  refine ct_of (own := RX7) (by decide) rfl (Nat.le_of_ble_eq_true rfl) ?_
  intro p e s m args below meth c C hr hlk
  refine g_sub (lv2 := [(0, .ref (ad 0)), (1, .int v1), (2, .int v2)]) [0, 1, 2] rfl ?_
  refine g_iload_n C dX7_run_0 rfl 1 rfl ?_
  refine g_iload_n C dX7_run_1 rfl 2 rfl ?_
  replace h := bs_some h
  obtain ⟨r21, h1, h⟩ := h
  refine g_cS (As := [.int v1, .int v2]) (rest := []) (stk2 := [.int r21]) C mf_X7_isPlan lk_X7_105 sm_X7_isPlan dX7_run_2 rfl rfl rfl ⟨Nat.le_of_ble_eq_true rfl, Nat.le_of_ble_eq_true rfl⟩ (Nat.le_of_ble_eq_true rfl) ⟨Nat.le_refl 0, Nat.le_refl 0⟩ (ct_X7_isPlan hL h1) ?_
  refine g_if_ne (tgt := 11) C dX7_run_5 (by decide) h ?_ ?_
  · clear h; intro hc5 h
    refine g_aload_n C dX7_run_11 rfl 0 rfl ?_
    refine g_getR (k2 := 1) C ok7 dX7_run_12 (hL 0 rfl) rfl 0 (by decide) lk_X7_12 rfl rfl ?_
    replace h := bs_some h
    obtain ⟨s22, h1, h⟩ := h
    refine g_cV (As := []) (rest := []) (stk2 := []) C mf_X5_execute ok5 rfl lk_X7_141 in_X5_execute se_X5_execute dX7_run_15 (hL 1 rfl) rfl rfl rfl rfl ⟨Nat.le_of_ble_eq_true rfl, Nat.le_of_ble_eq_true rfl⟩ (Nat.le_of_ble_eq_true rfl) ⟨Nat.le_refl 0, Nat.le_refl 0⟩ (ct_X5_execute hL h1) ?_
    refine g_aload_n C dX7_run_18 rfl 0 rfl ?_
    refine g_getR (k2 := 32) C ok7 dX7_run_19 (hL 0 rfl) rfl 5 (by decide) lk_X7_43 rfl rfl ?_
    refine g_iload_n C dX7_run_22 rfl 1 rfl ?_
    refine g_iload_n C dX7_run_23 rfl 2 rfl ?_
    replace h := bd_some h
    obtain ⟨r23, s24, h1, h⟩ := h
    replace h := ck_some h
    obtain ⟨hgd, h⟩ := h
    have kd_r23 : kd r23 = 2 := of_decide_eq_true hgd
    refine g_cV (As := [.int v1, .int v2]) (rest := []) (stk2 := [.ref (ad r23)]) C mf_X3_planFor ok3 rfl lk_X7_109 in_X3_planFor se_X3_planFor dX7_run_24 (hL 32 rfl) rfl rfl rfl rfl ⟨Nat.le_of_ble_eq_true rfl, Nat.le_of_ble_eq_true rfl⟩ (Nat.le_of_ble_eq_true rfl) ⟨Nat.le_refl 0, Nat.le_refl 0⟩ (ct_X3_planFor hL h1) ?_
    refine g_getI C ok2 dX7_run_27 (hL _ (prF_of kd_r23 (by decide))) kd_r23 1 (by decide) lk_X7_113 rfl ?_
    exact g_iret C hr hlk dX7_run_30 h
  · clear h; intro hc5 h
    refine g_bipush (v := (-2 : Int32)) C dX7_run_8 (by decide) ?_
    exact g_iret C hr hlk dX7_run_10 h
-- X7_weights
def F_X7_weights (N : Nat) (st : St) : Option (St) :=
  bs (F_X6_trace N (127 : Int32) (0 : Int32) (0 : Int32) st) (fun (s21 : St) => some s21)
set_option maxHeartbeats 4000000 in
set_option maxRecDepth 100000 in
theorem ct_X7_weights {N : Nat} (hL : ∀ k, prF k = true → k ∈ L) {st st' : St} (h : F_X7_weights N st = some st') : Ct l D cy ad A L yX7_weights cX7_weights 1 (some (.array .int)) 4 [.ref (ad 0)] st (some (.ref (ad 26))) st' := by
  unfold F_X7_weights at h
  refine ct_of (own := RX7) (by decide) rfl (Nat.le_of_ble_eq_true rfl) ?_
  intro p e s m args below meth c C hr hlk
  refine g_sub (lv2 := [(0, .ref (ad 0))]) [0] rfl ?_
  refine g_aload_n C dX7_weights_0 rfl 0 rfl ?_
  refine g_getR (k2 := 25) C ok7 dX7_weights_1 (hL 0 rfl) rfl 4 (by decide) lk_X7_30 rfl rfl ?_
  refine g_aload_n C dX7_weights_4 rfl 0 rfl ?_
  refine g_getR (k2 := 1) C ok7 dX7_weights_5 (hL 0 rfl) rfl 0 (by decide) lk_X7_12 rfl rfl ?_
  refine g_bipush (v := (127 : Int32)) C dX7_weights_8 (by decide) ?_
  refine g_iconst (v := (0 : Int32)) C dX7_weights_10 (by decide) ?_
  refine g_iconst (v := (0 : Int32)) C dX7_weights_11 (by decide) ?_
  replace h := bs_some h
  obtain ⟨s21, h1, h⟩ := h
  refine g_cV (As := [.ref (ad 1), .int (127 : Int32), .int (0 : Int32), .int (0 : Int32)]) (rest := []) (stk2 := []) C mf_X6_trace ok6 rfl lk_X7_163 in_X6_trace se_X6_trace dX7_weights_12 (hL 25 rfl) rfl rfl rfl rfl ⟨Nat.le_of_ble_eq_true rfl, Nat.le_of_ble_eq_true rfl⟩ (Nat.le_of_ble_eq_true rfl) ⟨Nat.le_refl 0, Nat.le_refl 0⟩ (ct_X6_trace hL h1) ?_
  refine g_aload_n C dX7_weights_15 rfl 0 rfl ?_
  refine g_getR (k2 := 25) C ok7 dX7_weights_16 (hL 0 rfl) rfl 4 (by decide) lk_X7_30 rfl rfl ?_
  refine g_getR (k2 := 26) C ok6 dX7_weights_19 (hL 25 rfl) rfl 0 (by decide) lk_X7_201 rfl rfl ?_
  exact g_aretC C hr hlk (Or.inr ⟨_, rfl⟩) dX7_weights_22 h
-- X7_weight
def F_X7_weight (N : Nat) (v1 : Int32) (v2 : Int32) (st : St) : Option (Int32 × St) :=
  bs (F_X7_isVariable v1) (fun (r21 : Int32) => (if r21 = 0 then some ((-1 : Int32), st) else bs (F_X7_isVariable v2) (fun (r22 : Int32) => (if r22 = 0 then some ((-1 : Int32), st) else bs (F_X7_weights N st) (fun (s23 : St) => ck (inb ((v1 * (7 : Int32)) + v2) 49) (some ((s23 26 ((v1 * (7 : Int32)) + v2).toNatClampNeg), s23)))))))
set_option maxHeartbeats 4000000 in
set_option maxRecDepth 100000 in
theorem ct_X7_weight {N : Nat} (hL : ∀ k, prF k = true → k ∈ L) {v1 : Int32} {v2 : Int32} {st st' : St} {r' : Int32} (h : F_X7_weight N v1 v2 st = some (r', st')) : Ct l D cy ad A L yX7_weight cX7_weight 3 (some .int) 5 [.ref (ad 0), .int v1, .int v2] st (some (.int r')) st' := by
  unfold F_X7_weight at h
  refine ct_of (own := RX7) (by decide) rfl (Nat.le_of_ble_eq_true rfl) ?_
  intro p e s m args below meth c C hr hlk
  refine g_sub (lv2 := [(0, .ref (ad 0)), (1, .int v1), (2, .int v2)]) [0, 1, 2] rfl ?_
  refine g_iload_n C dX7_weight_0 rfl 1 rfl ?_
  replace h := bs_some h
  obtain ⟨r21, h1, h⟩ := h
  refine g_cS (As := [.int v1]) (rest := []) (stk2 := [.int r21]) C mf_X7_isVariable lk_X7_54 sm_X7_isVariable dX7_weight_1 rfl rfl rfl ⟨Nat.le_of_ble_eq_true rfl, Nat.le_of_ble_eq_true rfl⟩ (Nat.le_of_ble_eq_true rfl) ⟨Nat.le_refl 0, Nat.le_refl 0⟩ (ct_X7_isVariable hL h1) ?_
  refine g_if_eq (tgt := 14) C dX7_weight_4 (by decide) h ?_ ?_
  · clear h; intro hc4 h
    refine g_iconst (v := (-1 : Int32)) C dX7_weight_14 (by decide) ?_
    exact g_iret C hr hlk dX7_weight_15 h
  · clear h; intro hc4 h
    refine g_iload_n C dX7_weight_7 rfl 2 rfl ?_
    replace h := bs_some h
    obtain ⟨r22, h1, h⟩ := h
    refine g_cS (As := [.int v2]) (rest := []) (stk2 := [.int r22]) C mf_X7_isVariable lk_X7_54 sm_X7_isVariable dX7_weight_8 rfl rfl rfl ⟨Nat.le_of_ble_eq_true rfl, Nat.le_of_ble_eq_true rfl⟩ (Nat.le_of_ble_eq_true rfl) ⟨Nat.le_refl 0, Nat.le_refl 0⟩ (ct_X7_isVariable hL h1) ?_
    refine g_if_ne (tgt := 16) C dX7_weight_11 (by decide) h ?_ ?_
    · clear h; intro hc11 h
      refine g_aload_n C dX7_weight_16 rfl 0 rfl ?_
      replace h := bs_some h
      obtain ⟨s23, h1, h⟩ := h
      refine g_cV (As := []) (rest := []) (stk2 := [.ref (ad 26)]) C mf_X7_weights ok7 rfl lk_X7_144 in_X7_weights se_X7_weights dX7_weight_17 (hL 0 rfl) rfl rfl rfl rfl ⟨Nat.le_of_ble_eq_true rfl, Nat.le_of_ble_eq_true rfl⟩ (Nat.le_of_ble_eq_true rfl) ⟨Nat.le_refl 0, Nat.le_refl 0⟩ (ct_X7_weights hL h1) ?_
      refine g_iload_n C dX7_weight_20 rfl 1 rfl ?_
      refine g_bipush (v := (7 : Int32)) C dX7_weight_21 (by decide) ?_
      refine g_imul C dX7_weight_23 ?_
      refine g_iload_n C dX7_weight_24 rfl 2 rfl ?_
      refine g_iadd C dX7_weight_25 ?_
      refine g_iald C dX7_weight_26 (hL 26 rfl) rfl rfl h ?_
      clear h; intro h
      exact g_iret C hr hlk dX7_weight_27 h
    · clear h; intro hc11 h
      refine g_iconst (v := (-1 : Int32)) C dX7_weight_14 (by decide) ?_
      exact g_iret C hr hlk dX7_weight_15 h
-- X0_load
def lpB_X0_load_23 (v3 : Int32) (K63 : Int32 → St → Option (Int32 × St)) (self : Int32 → Int32 → St → Option (Int32 × St)) (v2 : Int32) (v4 : Int32) (st : St) : Option (Int32 × St) :=
  (if (7 : Int32) ≤ v4 then K63 v2 st else lt ((v3 * (7 : Int32)) + v4) (fun (v25 : Int32) => ck (inb v25 49) (ck (inb v25 49) (lt (up st 67 v25.toNatClampNeg (st 26 v25.toNatClampNeg)) (fun (s26 : St) => ck (inb v25 49) (lt (v2 + (s26 26 v25.toNatClampNeg)) (fun (v27 : Int32) => lt (v4 + (1 : Int32)) (fun (v28 : Int32) => self v27 v28 s26))))))))
def lp_X0_load_23 (v3 : Int32) (K63 : Int32 → St → Option (Int32 × St)) : Nat → Int32 → Int32 → St → Option (Int32 × St) := itf (lpB_X0_load_23 v3 K63) (fun _ _ _ => none)
def lpB_X0_load_12 (N : Nat) (self : Int32 → Int32 → St → Option (Int32 × St)) (v2 : Int32) (v3 : Int32) (st : St) : Option (Int32 × St) :=
  (if (7 : Int32) ≤ v3 then some (v2, st) else lt (v3 + (1 : Int32)) (fun (v24 : Int32) => lp_X0_load_23 v3 (fun (v29 : Int32) (s30 : St) => lt (v3 + (1 : Int32)) (fun (v31 : Int32) => self v29 v31 s30)) N v2 v24 st))
def lp_X0_load_12 (N : Nat) : Nat → Int32 → Int32 → St → Option (Int32 × St) := itf (lpB_X0_load_12 N) (fun _ _ _ => none)
def F_X0_load (N : Nat) (st : St) : Option (Int32 × St) :=
  lt (0 : Int32) (fun (v21 : Int32) => bs (F_J7_fill_53178 N 67 (0 : Int32) st) (fun (s22 : St) => lt (0 : Int32) (fun (v23 : Int32) => lp_X0_load_12 N  N v21 v23 s22)))
set_option maxHeartbeats 4000000 in
set_option maxRecDepth 100000 in
theorem wlp_X0_load_23 (C : Cx p s m args c cX0_load RX0 6 D cy ad A L) (hr : meth.sig.returnType = (some .int)) (hlk : meth.locks = false) (hL : ∀ k, prF k = true → k ∈ L) {N : Nat} {v3 : Int32} {r' : Int32} {st' : St} {K63 : Int32 → St → Option (Int32 × St)} (hK63 : ∀ (v2 : Int32) (st : St), K63 v2 st = some (r', st') → Gm p l e (rmD 2) s m args below meth c D cy ad A L 6 0 0 (MQ below (QG D cy ad A L (some (.int r')) st') args s 0 0 A) 63 [(0, .ref (ad 65)), (1, .ref (ad 26)), (2, .int v2), (3, .int v3)] [] st) : ∀ (n : Nat) (v2 : Int32) (v4 : Int32) (st : St), lp_X0_load_23 v3 K63 n v2 v4 st = some (r', st') → Gm p l e (rmD 2) s m args below meth c D cy ad A L 6 0 0 (MQ below (QG D cy ad A L (some (.int r')) st') args s 0 0 A) 23 [(0, .ref (ad 65)), (1, .ref (ad 26)), (2, .int v2), (3, .int v3), (4, .int v4)] [] st := by
  intro n
  induction n with
  | zero => intro v2 v4 st h; cases h
  | succ n ih =>
    intro v2 v4 st h
    change lpB_X0_load_23 v3 K63 (lp_X0_load_23 v3 K63 n) v2 v4 st = some _ at h
    unfold lpB_X0_load_23 at h
    refine g_iload C dX0_load_23 4 rfl ?_
    refine g_bipush (v := (7 : Int32)) C dX0_load_25 (by decide) ?_
    refine g_icmp_ge (tgt := 63) C dX0_load_27 (by decide) h ?_ ?_
    · clear h; intro hc27 h
      refine g_sub (lv2 := [(0, .ref (ad 65)), (1, .ref (ad 26)), (2, .int v2), (3, .int v3)]) [0, 1, 2, 3] rfl ?_
      exact hK63 _ _ h
    · clear h; intro hc27 h
      refine g_iload_n C dX0_load_30 rfl 3 rfl ?_
      refine g_bipush (v := (7 : Int32)) C dX0_load_31 (by decide) ?_
      refine g_imul C dX0_load_33 ?_
      refine g_iload C dX0_load_34 4 rfl ?_
      refine g_iadd C dX0_load_36 ?_
      refine g_istore (lv' := fun y => [(5, .int y), (0, .ref (ad 65)), (1, .ref (ad 26)), (2, .int v2), (3, .int v3), (4, .int v4)]) C dX0_load_37 (by decide) (fun y => rfl) h ?_
      clear h; intro v25 h
      refine g_aload_n C dX0_load_39 rfl 1 rfl ?_
      refine g_getR (k2 := 67) C ok0 dX0_load_40 (hL 65 rfl) rfl 1 (by decide) lk_X0_15 rfl rfl ?_
      refine g_iload C dX0_load_43 0 rfl ?_
      refine g_aload_n C dX0_load_45 rfl 2 rfl ?_
      refine g_iload C dX0_load_46 0 rfl ?_
      refine g_iald C dX0_load_48 (hL 26 rfl) rfl rfl h ?_
      clear h; intro h
      refine g_iast C dX0_load_49 (hL 67 rfl) rfl rfl h ?_
      clear h; intro s26 h
      refine g_iload_n C dX0_load_50 rfl 3 rfl ?_
      refine g_aload_n C dX0_load_51 rfl 2 rfl ?_
      refine g_iload C dX0_load_52 0 rfl ?_
      refine g_iald C dX0_load_54 (hL 26 rfl) rfl rfl h ?_
      clear h; intro h
      refine g_iadd C dX0_load_55 ?_
      refine g_istore_n (lv' := fun y => [(2, .int y), (5, .int v25), (0, .ref (ad 65)), (1, .ref (ad 26)), (3, .int v3), (4, .int v4)]) C dX0_load_56 rfl (by decide) (fun y => rfl) h ?_
      clear h; intro v27 h
      refine g_iinc (lv' := fun y => [(4, .int y), (2, .int v27), (5, .int v25), (0, .ref (ad 65)), (1, .ref (ad 26)), (3, .int v3)]) C dX0_load_57 5 rfl rfl (by decide) (fun y => rfl) h ?_
      clear h; intro v28 h
      refine g_goto (tgt := 23) C dX0_load_60 (by decide) ?_
      refine g_sub (lv2 := [(0, .ref (ad 65)), (1, .ref (ad 26)), (2, .int v27), (3, .int v3), (4, .int v28)]) [3, 4, 1, 5, 0] rfl ?_
      exact ih _ _ _ h
set_option maxHeartbeats 4000000 in
set_option maxRecDepth 100000 in
theorem wlp_X0_load_12 (C : Cx p s m args c cX0_load RX0 6 D cy ad A L) (hr : meth.sig.returnType = (some .int)) (hlk : meth.locks = false) (hL : ∀ k, prF k = true → k ∈ L) {N : Nat} {r' : Int32} {st' : St} : ∀ (n : Nat) (v2 : Int32) (v3 : Int32) (st : St), lp_X0_load_12 N n v2 v3 st = some (r', st') → Gm p l e (rmD 2) s m args below meth c D cy ad A L 6 0 0 (MQ below (QG D cy ad A L (some (.int r')) st') args s 0 0 A) 12 [(0, .ref (ad 65)), (1, .ref (ad 26)), (2, .int v2), (3, .int v3)] [] st := by
  intro n
  induction n with
  | zero => intro v2 v3 st h; cases h
  | succ n ih =>
    intro v2 v3 st h
    change lpB_X0_load_12 N (lp_X0_load_12 N n) v2 v3 st = some _ at h
    unfold lpB_X0_load_12 at h
    refine g_iload_n C dX0_load_12 rfl 3 rfl ?_
    refine g_bipush (v := (7 : Int32)) C dX0_load_13 (by decide) ?_
    refine g_icmp_ge (tgt := 69) C dX0_load_15 (by decide) h ?_ ?_
    · clear h; intro hc15 h
      refine g_iload_n C dX0_load_69 rfl 2 rfl ?_
      exact g_iret C hr hlk dX0_load_70 h
    · clear h; intro hc15 h
      refine g_iload_n C dX0_load_18 rfl 3 rfl ?_
      refine g_iconst (v := (1 : Int32)) C dX0_load_19 (by decide) ?_
      refine g_iadd C dX0_load_20 ?_
      refine g_istore (lv' := fun y => [(4, .int y), (0, .ref (ad 65)), (1, .ref (ad 26)), (2, .int v2), (3, .int v3)]) C dX0_load_21 (by decide) (fun y => rfl) h ?_
      clear h; intro v24 h
      refine g_sub (lv2 := [(0, .ref (ad 65)), (1, .ref (ad 26)), (2, .int v2), (3, .int v3), (4, .int v24)]) [1, 2, 3, 4, 0] rfl ?_
      refine wlp_X0_load_23 (N := N) C hr hlk hL ?_ _ _ _ _ h
      · intro v29 s30 h
        refine g_iinc (lv' := fun y => [(3, .int y), (0, .ref (ad 65)), (1, .ref (ad 26)), (2, .int v29)]) C dX0_load_63 3 rfl rfl (by decide) (fun y => rfl) h ?_
        clear h; intro v31 h
        refine g_goto (tgt := 12) C dX0_load_66 (by decide) ?_
        refine g_sub (lv2 := [(0, .ref (ad 65)), (1, .ref (ad 26)), (2, .int v29), (3, .int v31)]) [1, 2, 3, 0] rfl ?_
        exact ih _ _ _ h
set_option maxHeartbeats 4000000 in
set_option maxRecDepth 100000 in
theorem ct_X0_load {N : Nat} (hL : ∀ k, prF k = true → k ∈ L) {st st' : St} {r' : Int32} (h : F_X0_load N st = some (r', st')) : Ct l D cy ad A L yX0_load cX0_load 6 (some .int) 2 [.ref (ad 65), .ref (ad 26)] st (some (.int r')) st' := by
  unfold F_X0_load at h
  refine ct_of (own := RX0) (by decide) rfl (Nat.le_of_ble_eq_true rfl) ?_
  intro p e s m args below meth c C hr hlk
  refine g_sub (lv2 := [(0, .ref (ad 65)), (1, .ref (ad 26))]) [0, 1] rfl ?_
  refine g_iconst (v := (0 : Int32)) C dX0_load_0 (by decide) ?_
  refine g_istore_n (lv' := fun y => [(2, .int y), (0, .ref (ad 65)), (1, .ref (ad 26))]) C dX0_load_1 rfl (by decide) (fun y => rfl) h ?_
  clear h; intro v21 h
  refine g_aload_n C dX0_load_2 rfl 1 rfl ?_
  refine g_getR (k2 := 67) C ok0 dX0_load_3 (hL 65 rfl) rfl 1 (by decide) lk_X0_15 rfl rfl ?_
  refine g_iconst (v := (0 : Int32)) C dX0_load_6 (by decide) ?_
  replace h := bs_some h
  obtain ⟨s22, h1, h⟩ := h
  refine g_cS (As := [.ref (ad 67), .int (0 : Int32)]) (rest := []) (stk2 := []) C mf_J7_fill_53178 lk_X0_25 sm_J7_fill_53178 dX0_load_7 rfl rfl rfl ⟨Nat.le_of_ble_eq_true rfl, Nat.le_of_ble_eq_true rfl⟩ (Nat.le_of_ble_eq_true rfl) ⟨Nat.le_refl 0, Nat.le_refl 0⟩ (ct_J7_fill_53178 (hL 67 rfl) h1) ?_
  refine g_iconst (v := (0 : Int32)) C dX0_load_10 (by decide) ?_
  refine g_istore_n (lv' := fun y => [(3, .int y), (2, .int v21), (0, .ref (ad 65)), (1, .ref (ad 26))]) C dX0_load_11 rfl (by decide) (fun y => rfl) h ?_
  clear h; intro v23 h
  refine g_sub (lv2 := [(0, .ref (ad 65)), (1, .ref (ad 26)), (2, .int v21), (3, .int v23)]) [2, 3, 1, 0] rfl ?_
  refine wlp_X0_load_12 (N := N) C hr hlk hL  _ _ _ _ h
-- X0_greatest
def lpB_X0_greatest_6 (st : St) (self : Int32 → Int32 → Int32 → Option (Int32)) (v1 : Int32) (v2 : Int32) (v3 : Int32) : Option (Int32) :=
  (if (49 : Int32) ≤ v3 then some v1 else ck (inb v3 49) ((if (st 67 v3.toNatClampNeg) ≤ v2 then lt (v3 + (1 : Int32)) (fun (v24 : Int32) => self v1 v2 v24) else ck (inb v3 49) (lt (st 67 v3.toNatClampNeg) (fun (v25 : Int32) => lt v3 (fun (v26 : Int32) => lt (v3 + (1 : Int32)) (fun (v27 : Int32) => self v26 v25 v27)))))))
def lp_X0_greatest_6 (st : St) : Nat → Int32 → Int32 → Int32 → Option (Int32) := itf (lpB_X0_greatest_6 st) (fun _ _ _ => none)
def F_X0_greatest (N : Nat) (st : St) : Option (Int32) :=
  lt (-1 : Int32) (fun (v21 : Int32) => lt (0 : Int32) (fun (v22 : Int32) => lt (0 : Int32) (fun (v23 : Int32) => lp_X0_greatest_6 st  N v21 v22 v23)))
set_option maxHeartbeats 4000000 in
set_option maxRecDepth 100000 in
theorem wlp_X0_greatest_6 (C : Cx p s m args c cX0_greatest RX0 4 D cy ad A L) (hr : meth.sig.returnType = (some .int)) (hlk : meth.locks = false) (hL : ∀ k, prF k = true → k ∈ L) {N : Nat} {r' : Int32}  {st : St} : ∀ (n : Nat) (v1 : Int32) (v2 : Int32) (v3 : Int32), lp_X0_greatest_6 st n v1 v2 v3 = some r' → Gm p l e (rmD 1) s m args below meth c D cy ad A L 4 0 0 (MQ below (QG D cy ad A L (some (.int r')) st) args s 0 0 A) 6 [(0, .ref (ad 65)), (1, .int v1), (2, .int v2), (3, .int v3)] [] st := by
  intro n
  induction n with
  | zero => intro v1 v2 v3 h; cases h
  | succ n ih =>
    intro v1 v2 v3 h
    change lpB_X0_greatest_6 st (lp_X0_greatest_6 st n) v1 v2 v3 = some _ at h
    unfold lpB_X0_greatest_6 at h
    refine g_iload_n C dX0_greatest_6 rfl 3 rfl ?_
    refine g_aload_n C dX0_greatest_7 rfl 0 rfl ?_
    refine g_getR (k2 := 67) C ok0 dX0_greatest_8 (hL 65 rfl) rfl 1 (by decide) lk_X0_15 rfl rfl ?_
    refine g_alen (v := (49 : Int32)) C dX0_greatest_11 (hL 67 rfl) rfl rfl rfl ?_
    refine g_icmp_ge (tgt := 40) C dX0_greatest_12 (by decide) h ?_ ?_
    · clear h; intro hc12 h
      refine g_iload_n C dX0_greatest_40 rfl 1 rfl ?_
      exact g_iretP C hr hlk dX0_greatest_41 h
    · clear h; intro hc12 h
      refine g_aload_n C dX0_greatest_15 rfl 0 rfl ?_
      refine g_getR (k2 := 67) C ok0 dX0_greatest_16 (hL 65 rfl) rfl 1 (by decide) lk_X0_15 rfl rfl ?_
      refine g_iload_n C dX0_greatest_19 rfl 3 rfl ?_
      refine g_iald C dX0_greatest_20 (hL 67 rfl) rfl rfl h ?_
      clear h; intro h
      refine g_iload_n C dX0_greatest_21 rfl 2 rfl ?_
      refine g_icmp_le (tgt := 34) C dX0_greatest_22 (by decide) h ?_ ?_
      · clear h; intro hc22 h
        refine g_iinc (lv' := fun y => [(3, .int y), (0, .ref (ad 65)), (1, .int v1), (2, .int v2)]) C dX0_greatest_34 3 rfl rfl (by decide) (fun y => rfl) h ?_
        clear h; intro v24 h
        refine g_goto (tgt := 6) C dX0_greatest_37 (by decide) ?_
        refine g_sub (lv2 := [(0, .ref (ad 65)), (1, .int v1), (2, .int v2), (3, .int v24)]) [1, 2, 3, 0] rfl ?_
        exact ih _ _ _ h
      · clear h; intro hc22 h
        refine g_aload_n C dX0_greatest_25 rfl 0 rfl ?_
        refine g_getR (k2 := 67) C ok0 dX0_greatest_26 (hL 65 rfl) rfl 1 (by decide) lk_X0_15 rfl rfl ?_
        refine g_iload_n C dX0_greatest_29 rfl 3 rfl ?_
        refine g_iald C dX0_greatest_30 (hL 67 rfl) rfl rfl h ?_
        clear h; intro h
        refine g_istore_n (lv' := fun y => [(2, .int y), (0, .ref (ad 65)), (1, .int v1), (3, .int v3)]) C dX0_greatest_31 rfl (by decide) (fun y => rfl) h ?_
        clear h; intro v25 h
        refine g_iload_n C dX0_greatest_32 rfl 3 rfl ?_
        refine g_istore_n (lv' := fun y => [(1, .int y), (2, .int v25), (0, .ref (ad 65)), (3, .int v3)]) C dX0_greatest_33 rfl (by decide) (fun y => rfl) h ?_
        clear h; intro v26 h
        refine g_iinc (lv' := fun y => [(3, .int y), (1, .int v26), (2, .int v25), (0, .ref (ad 65))]) C dX0_greatest_34 3 rfl rfl (by decide) (fun y => rfl) h ?_
        clear h; intro v27 h
        refine g_goto (tgt := 6) C dX0_greatest_37 (by decide) ?_
        refine g_sub (lv2 := [(0, .ref (ad 65)), (1, .int v26), (2, .int v25), (3, .int v27)]) [3, 1, 2, 0] rfl ?_
        exact ih _ _ _ h
set_option maxHeartbeats 4000000 in
set_option maxRecDepth 100000 in
theorem ct_X0_greatest {N : Nat} (hL : ∀ k, prF k = true → k ∈ L) {st : St} {r' : Int32} (h : F_X0_greatest N st = some r') : Ct l D cy ad A L yX0_greatest cX0_greatest 4 (some .int) 1 [.ref (ad 65)] st (some (.int r')) st := by
  unfold F_X0_greatest at h
  refine ct_of (own := RX0) (by decide) rfl (Nat.le_of_ble_eq_true rfl) ?_
  intro p e s m args below meth c C hr hlk
  refine g_sub (lv2 := [(0, .ref (ad 65))]) [0] rfl ?_
  refine g_iconst (v := (-1 : Int32)) C dX0_greatest_0 (by decide) ?_
  refine g_istore_n (lv' := fun y => [(1, .int y), (0, .ref (ad 65))]) C dX0_greatest_1 rfl (by decide) (fun y => rfl) h ?_
  clear h; intro v21 h
  refine g_iconst (v := (0 : Int32)) C dX0_greatest_2 (by decide) ?_
  refine g_istore_n (lv' := fun y => [(2, .int y), (1, .int v21), (0, .ref (ad 65))]) C dX0_greatest_3 rfl (by decide) (fun y => rfl) h ?_
  clear h; intro v22 h
  refine g_iconst (v := (0 : Int32)) C dX0_greatest_4 (by decide) ?_
  refine g_istore_n (lv' := fun y => [(3, .int y), (2, .int v22), (1, .int v21), (0, .ref (ad 65))]) C dX0_greatest_5 rfl (by decide) (fun y => rfl) h ?_
  clear h; intro v23 h
  refine g_sub (lv2 := [(0, .ref (ad 65)), (1, .int v21), (2, .int v22), (3, .int v23)]) [3, 2, 1, 0] rfl ?_
  refine wlp_X0_greatest_6 (N := N) C hr hlk hL  _ _ _ _ h
-- X0_join
def lpB_X0_join_64 (v1 : Int32) (v3 : Int32) (self : Int32 → St → Option (St)) (v4 : Int32) (st : St) : Option (St) :=
  (if (7 : Int32) ≤ v4 then some st else ck (inb v4 7) ((if (st 69 v4.toNatClampNeg) = v3 then ck (inb v1 7) (ck (inb v4 7) (lt (up st 69 v4.toNatClampNeg (st 69 v1.toNatClampNeg)) (fun (s29 : St) => lt (v4 + (1 : Int32)) (fun (v30 : Int32) => self v30 s29)))) else lt (v4 + (1 : Int32)) (fun (v28 : Int32) => self v28 st))))
def lp_X0_join_64 (v1 : Int32) (v3 : Int32) : Nat → Int32 → St → Option (St) := itf (lpB_X0_join_64 v1 v3) (fun _ _ => none)
def F_X0_join (N : Nat) (v1 : Int32) (v2 : Int32) (st : St) : Option (St) :=
  ck (inb ((v1 * (7 : Int32)) + v2) 49) (lt (up st 66 ((v1 * (7 : Int32)) + v2).toNatClampNeg (vp_nar .boolean (1 : Int32))) (fun (s21 : St) => ck (inb ((v2 * (7 : Int32)) + v1) 49) (lt (up s21 66 ((v2 * (7 : Int32)) + v1).toNatClampNeg (vp_nar .boolean (1 : Int32))) (fun (s22 : St) => ck (inb v1 7) (ck (inb v1 7) (lt (up s22 68 v1.toNatClampNeg ((s22 68 v1.toNatClampNeg) + (1 : Int32))) (fun (s23 : St) => ck (inb v2 7) (ck (inb v2 7) (lt (up s23 68 v2.toNatClampNeg ((s23 68 v2.toNatClampNeg) + (1 : Int32))) (fun (s24 : St) => lt (up s24 65 4 ((s24 65 4) + (1 : Int32))) (fun (s25 : St) => ck (inb v2 7) (lt (s25 69 v2.toNatClampNeg) (fun (v26 : Int32) => lt (0 : Int32) (fun (v27 : Int32) => lp_X0_join_64 v1 v26  N v27 s25))))))))))))))
set_option maxHeartbeats 4000000 in
set_option maxRecDepth 100000 in
theorem wlp_X0_join_64 (C : Cx p s m args c cX0_join RX0 5 D cy ad A L) (hr : meth.sig.returnType = none) (hlk : meth.locks = false) (hL : ∀ k, prF k = true → k ∈ L) {N : Nat} {v1 : Int32} {v3 : Int32} {st' : St} : ∀ (n : Nat) (v4 : Int32) (st : St), lp_X0_join_64 v1 v3 n v4 st = some st' → Gm p l e (rmD 1) s m args below meth c D cy ad A L 5 0 0 (MQ below (QG D cy ad A L none st') args s 0 0 A) 64 [(0, .ref (ad 65)), (1, .int v1), (3, .int v3), (4, .int v4)] [] st := by
  intro n
  induction n with
  | zero => intro v4 st h; cases h
  | succ n ih =>
    intro v4 st h
    change lpB_X0_join_64 v1 v3 (lp_X0_join_64 v1 v3 n) v4 st = some _ at h
    unfold lpB_X0_join_64 at h
    refine g_iload C dX0_join_64 3 rfl ?_
    refine g_bipush (v := (7 : Int32)) C dX0_join_66 (by decide) ?_
    refine g_icmp_ge (tgt := 101) C dX0_join_68 (by decide) h ?_ ?_
    · clear h; intro hc68 h
      exact g_vret C hr hlk dX0_join_101 h
    · clear h; intro hc68 h
      refine g_aload_n C dX0_join_71 rfl 0 rfl ?_
      refine g_getR (k2 := 69) C ok0 dX0_join_72 (hL 65 rfl) rfl 3 (by decide) lk_X0_22 rfl rfl ?_
      refine g_iload C dX0_join_75 3 rfl ?_
      refine g_iald C dX0_join_77 (hL 69 rfl) rfl rfl h ?_
      clear h; intro h
      refine g_iload_n C dX0_join_78 rfl 2 rfl ?_
      refine g_icmp_ne (tgt := 95) C dX0_join_79 (by decide) h ?_ ?_
      · clear h; intro hc79 h
        refine g_iinc (lv' := fun y => [(4, .int y), (0, .ref (ad 65)), (1, .int v1), (3, .int v3)]) C dX0_join_95 3 rfl rfl (by decide) (fun y => rfl) h ?_
        clear h; intro v28 h
        refine g_goto (tgt := 64) C dX0_join_98 (by decide) ?_
        refine g_sub (lv2 := [(0, .ref (ad 65)), (1, .int v1), (3, .int v3), (4, .int v28)]) [1, 2, 3, 0] rfl ?_
        exact ih _ _ h
      · clear h; intro hc79 h
        refine g_aload_n C dX0_join_82 rfl 0 rfl ?_
        refine g_getR (k2 := 69) C ok0 dX0_join_83 (hL 65 rfl) rfl 3 (by decide) lk_X0_22 rfl rfl ?_
        refine g_iload C dX0_join_86 3 rfl ?_
        refine g_aload_n C dX0_join_88 rfl 0 rfl ?_
        refine g_getR (k2 := 69) C ok0 dX0_join_89 (hL 65 rfl) rfl 3 (by decide) lk_X0_22 rfl rfl ?_
        refine g_iload_n C dX0_join_92 rfl 1 rfl ?_
        refine g_iald C dX0_join_93 (hL 69 rfl) rfl rfl h ?_
        clear h; intro h
        refine g_iast C dX0_join_94 (hL 69 rfl) rfl rfl h ?_
        clear h; intro s29 h
        refine g_iinc (lv' := fun y => [(4, .int y), (0, .ref (ad 65)), (1, .int v1), (3, .int v3)]) C dX0_join_95 3 rfl rfl (by decide) (fun y => rfl) h ?_
        clear h; intro v30 h
        refine g_goto (tgt := 64) C dX0_join_98 (by decide) ?_
        refine g_sub (lv2 := [(0, .ref (ad 65)), (1, .int v1), (3, .int v3), (4, .int v30)]) [1, 2, 3, 0] rfl ?_
        exact ih _ _ h
set_option maxHeartbeats 4000000 in
set_option maxRecDepth 100000 in
theorem ct_X0_join {N : Nat} (hL : ∀ k, prF k = true → k ∈ L) {v1 : Int32} {v2 : Int32} {st st' : St} (h : F_X0_join N v1 v2 st = some st') : Ct l D cy ad A L yX0_join cX0_join 5 none 1 [.ref (ad 65), .int v1, .int v2] st none st' := by
  unfold F_X0_join at h
  refine ct_of (own := RX0) (by decide) rfl (Nat.le_of_ble_eq_true rfl) ?_
  intro p e s m args below meth c C hr hlk
  refine g_sub (lv2 := [(0, .ref (ad 65)), (1, .int v1), (2, .int v2)]) [0, 1, 2] rfl ?_
  refine g_aload_n C dX0_join_0 rfl 0 rfl ?_
  refine g_getR (k2 := 66) C ok0 dX0_join_1 (hL 65 rfl) rfl 0 (by decide) lk_X0_9 rfl rfl ?_
  refine g_iload_n C dX0_join_4 rfl 1 rfl ?_
  refine g_bipush (v := (7 : Int32)) C dX0_join_5 (by decide) ?_
  refine g_imul C dX0_join_7 ?_
  refine g_iload_n C dX0_join_8 rfl 2 rfl ?_
  refine g_iadd C dX0_join_9 ?_
  refine g_iconst (v := (1 : Int32)) C dX0_join_10 (by decide) ?_
  refine g_zast C dX0_join_11 (hL 66 rfl) rfl rfl h ?_
  clear h; intro s21 h
  refine g_aload_n C dX0_join_12 rfl 0 rfl ?_
  refine g_getR (k2 := 66) C ok0 dX0_join_13 (hL 65 rfl) rfl 0 (by decide) lk_X0_9 rfl rfl ?_
  refine g_iload_n C dX0_join_16 rfl 2 rfl ?_
  refine g_bipush (v := (7 : Int32)) C dX0_join_17 (by decide) ?_
  refine g_imul C dX0_join_19 ?_
  refine g_iload_n C dX0_join_20 rfl 1 rfl ?_
  refine g_iadd C dX0_join_21 ?_
  refine g_iconst (v := (1 : Int32)) C dX0_join_22 (by decide) ?_
  refine g_zast C dX0_join_23 (hL 66 rfl) rfl rfl h ?_
  clear h; intro s22 h
  refine g_aload_n C dX0_join_24 rfl 0 rfl ?_
  refine g_getR (k2 := 68) C ok0 dX0_join_25 (hL 65 rfl) rfl 2 (by decide) lk_X0_19 rfl rfl ?_
  refine g_iload_n C dX0_join_28 rfl 1 rfl ?_
  refine g_dup2 C dX0_join_29 rfl rfl ?_
  refine g_iald C dX0_join_30 (hL 68 rfl) rfl rfl h ?_
  clear h; intro h
  refine g_iconst (v := (1 : Int32)) C dX0_join_31 (by decide) ?_
  refine g_iadd C dX0_join_32 ?_
  refine g_iast C dX0_join_33 (hL 68 rfl) rfl rfl h ?_
  clear h; intro s23 h
  refine g_aload_n C dX0_join_34 rfl 0 rfl ?_
  refine g_getR (k2 := 68) C ok0 dX0_join_35 (hL 65 rfl) rfl 2 (by decide) lk_X0_19 rfl rfl ?_
  refine g_iload_n C dX0_join_38 rfl 2 rfl ?_
  refine g_dup2 C dX0_join_39 rfl rfl ?_
  refine g_iald C dX0_join_40 (hL 68 rfl) rfl rfl h ?_
  clear h; intro h
  refine g_iconst (v := (1 : Int32)) C dX0_join_41 (by decide) ?_
  refine g_iadd C dX0_join_42 ?_
  refine g_iast C dX0_join_43 (hL 68 rfl) rfl rfl h ?_
  clear h; intro s24 h
  refine g_aload_n C dX0_join_44 rfl 0 rfl ?_
  refine g_dup C dX0_join_45 rfl ?_
  refine g_getI C ok0 dX0_join_46 (hL 65 rfl) rfl 4 (by decide) lk_X0_31 rfl ?_
  refine g_iconst (v := (1 : Int32)) C dX0_join_49 (by decide) ?_
  refine g_iadd C dX0_join_50 ?_
  refine g_put (ty := .int) C ok0 dX0_join_51 (hL 65 rfl) rfl 4 (by decide) lk_X0_31 rfl (tyX0_ok 4 (by decide)) rfl rfl rfl h ?_
  clear h; intro s25 h
  refine g_aload_n C dX0_join_54 rfl 0 rfl ?_
  refine g_getR (k2 := 69) C ok0 dX0_join_55 (hL 65 rfl) rfl 3 (by decide) lk_X0_22 rfl rfl ?_
  refine g_iload_n C dX0_join_58 rfl 2 rfl ?_
  refine g_iald C dX0_join_59 (hL 69 rfl) rfl rfl h ?_
  clear h; intro h
  refine g_istore_n (lv' := fun y => [(3, .int y), (0, .ref (ad 65)), (1, .int v1), (2, .int v2)]) C dX0_join_60 rfl (by decide) (fun y => rfl) h ?_
  clear h; intro v26 h
  refine g_iconst (v := (0 : Int32)) C dX0_join_61 (by decide) ?_
  refine g_istore (lv' := fun y => [(4, .int y), (3, .int v26), (0, .ref (ad 65)), (1, .int v1), (2, .int v2)]) C dX0_join_62 (by decide) (fun y => rfl) h ?_
  clear h; intro v27 h
  refine g_sub (lv2 := [(0, .ref (ad 65)), (1, .int v1), (3, .int v26), (4, .int v27)]) [2, 3, 1, 0] rfl ?_
  refine wlp_X0_join_64 (N := N) C hr hlk hL  _ _ _ h
-- X0_take
def lpB_X0_take_24 (K46 : St → Option (St)) (self : Int32 → St → Option (St)) (v2 : Int32) (st : St) : Option (St) :=
  (if (49 : Int32) ≤ v2 then K46 st else ck (inb v2 49) (lt (up st 66 v2.toNatClampNeg (vp_nar .boolean (0 : Int32))) (fun (s27 : St) => lt (v2 + (1 : Int32)) (fun (v28 : Int32) => self v28 s27))))
def lp_X0_take_24 (K46 : St → Option (St)) : Nat → Int32 → St → Option (St) := itf (lpB_X0_take_24 K46) (fun _ _ => none)
def lpB_X0_take_48 (K67 : St → Option (St)) (self : Int32 → St → Option (St)) (v2 : Int32) (st : St) : Option (St) :=
  (if (7 : Int32) ≤ v2 then K67 st else ck (inb v2 7) (lt (up st 69 v2.toNatClampNeg v2) (fun (s31 : St) => lt (v2 + (1 : Int32)) (fun (v32 : Int32) => self v32 s31))))
def lp_X0_take_48 (K67 : St → Option (St)) : Nat → Int32 → St → Option (St) := itf (lpB_X0_take_48 K67) (fun _ _ => none)
def lpB_X0_take_74 (N : Nat) (self : Int32 → Int32 → St → Option (St)) (v2 : Int32) (v3 : Int32) (st : St) : Option (St) :=
  (if (49 : Int32) ≤ v3 then some st else (if v2 < 0 then some st else ck (decide ((7 : Int32) ≠ 0)) (lt (v2 / (7 : Int32)) (fun (v37 : Int32) => ck (decide ((7 : Int32) ≠ 0)) (lt (v2 - v2 / (7 : Int32) * (7 : Int32)) (fun (v38 : Int32) => ck (inb v37 7) (lt (fun (s39 : St) => ck (inb v2 49) (lt (up s39 67 v2.toNatClampNeg (0 : Int32)) (fun (s41 : St) => bs (F_X0_greatest N s41) (fun (r42 : Int32) => lt r42 (fun (v43 : Int32) => lt (v3 + (1 : Int32)) (fun (v44 : Int32) => self v43 v44 s41)))))) (fun (j40 : St → Option (St)) => (if (2 : Int32) ≤ (st 68 v37.toNatClampNeg) then j40 st else ck (inb v38 7) ((if (2 : Int32) ≤ (st 68 v38.toNatClampNeg) then j40 st else ck (inb v37 7) (ck (inb v38 7) ((if (st 69 v37.toNatClampNeg) = (st 69 v38.toNatClampNeg) then j40 st else bs (F_X0_join N v37 v38 st) (fun (s45 : St) => ck (inb v2 49) (lt (up s45 65 5 ((s45 65 5) - (s45 67 v2.toNatClampNeg))) (fun (s46 : St) => j40 s46)))))))))))))))))
def lp_X0_take_74 (N : Nat) : Nat → Int32 → Int32 → St → Option (St) := itf (lpB_X0_take_74 N) (fun _ _ _ => none)
def F_X0_take (N : Nat) (st : St) : Option (St) :=
  bs (F_J7_fill_53178 N 68 (0 : Int32) st) (fun (s21 : St) => lt (up s21 65 4 (0 : Int32)) (fun (s22 : St) => bd (F_X0_load N s22) (fun (r23 : Int32) (s24 : St) => lt (up s24 65 5 r23) (fun (s25 : St) => lt (0 : Int32) (fun (v26 : Int32) => lp_X0_take_24 (fun (s29 : St) => lt (0 : Int32) (fun (v30 : Int32) => lp_X0_take_48 (fun (s33 : St) => bs (F_X0_greatest N s33) (fun (r34 : Int32) => lt r34 (fun (v35 : Int32) => lt (0 : Int32) (fun (v36 : Int32) => lp_X0_take_74 N  N v35 v36 s33)))) N v30 s29)) N v26 s25)))))
set_option maxHeartbeats 4000000 in
set_option maxRecDepth 100000 in
theorem wlp_X0_take_24 (C : Cx p s m args c cX0_take RX0 6 D cy ad A L) (hr : meth.sig.returnType = none) (hlk : meth.locks = false) (hL : ∀ k, prF k = true → k ∈ L) {N : Nat} {st' : St} {K46 : St → Option (St)} (hK46 : ∀  (st : St), K46 st = some st' → Gm p l e (rmD 3) s m args below meth c D cy ad A L 6 0 0 (MQ below (QG D cy ad A L none st') args s 0 0 A) 46 [(0, .ref (ad 65))] [] st) : ∀ (n : Nat) (v2 : Int32) (st : St), lp_X0_take_24 K46 n v2 st = some st' → Gm p l e (rmD 3) s m args below meth c D cy ad A L 6 0 0 (MQ below (QG D cy ad A L none st') args s 0 0 A) 24 [(0, .ref (ad 65)), (2, .int v2)] [] st := by
  intro n
  induction n with
  | zero => intro v2 st h; cases h
  | succ n ih =>
    intro v2 st h
    change lpB_X0_take_24 K46 (lp_X0_take_24 K46 n) v2 st = some _ at h
    unfold lpB_X0_take_24 at h
    refine g_iload_n C dX0_take_24 rfl 1 rfl ?_
    refine g_aload_n C dX0_take_25 rfl 0 rfl ?_
    refine g_getR (k2 := 67) C ok0 dX0_take_26 (hL 65 rfl) rfl 1 (by decide) lk_X0_15 rfl rfl ?_
    refine g_alen (v := (49 : Int32)) C dX0_take_29 (hL 67 rfl) rfl rfl rfl ?_
    refine g_icmp_ge (tgt := 46) C dX0_take_30 (by decide) h ?_ ?_
    · clear h; intro hc30 h
      refine g_sub (lv2 := [(0, .ref (ad 65))]) [0] rfl ?_
      exact hK46 _ h
    · clear h; intro hc30 h
      refine g_aload_n C dX0_take_33 rfl 0 rfl ?_
      refine g_getR (k2 := 66) C ok0 dX0_take_34 (hL 65 rfl) rfl 0 (by decide) lk_X0_9 rfl rfl ?_
      refine g_iload_n C dX0_take_37 rfl 1 rfl ?_
      refine g_iconst (v := (0 : Int32)) C dX0_take_38 (by decide) ?_
      refine g_zast C dX0_take_39 (hL 66 rfl) rfl rfl h ?_
      clear h; intro s27 h
      refine g_iinc (lv' := fun y => [(2, .int y), (0, .ref (ad 65))]) C dX0_take_40 1 rfl rfl (by decide) (fun y => rfl) h ?_
      clear h; intro v28 h
      refine g_goto (tgt := 24) C dX0_take_43 (by decide) ?_
      refine g_sub (lv2 := [(0, .ref (ad 65)), (2, .int v28)]) [1, 0] rfl ?_
      exact ih _ _ h
set_option maxHeartbeats 4000000 in
set_option maxRecDepth 100000 in
theorem wlp_X0_take_48 (C : Cx p s m args c cX0_take RX0 6 D cy ad A L) (hr : meth.sig.returnType = none) (hlk : meth.locks = false) (hL : ∀ k, prF k = true → k ∈ L) {N : Nat} {st' : St} {K67 : St → Option (St)} (hK67 : ∀  (st : St), K67 st = some st' → Gm p l e (rmD 3) s m args below meth c D cy ad A L 6 0 0 (MQ below (QG D cy ad A L none st') args s 0 0 A) 67 [(0, .ref (ad 65))] [] st) : ∀ (n : Nat) (v2 : Int32) (st : St), lp_X0_take_48 K67 n v2 st = some st' → Gm p l e (rmD 3) s m args below meth c D cy ad A L 6 0 0 (MQ below (QG D cy ad A L none st') args s 0 0 A) 48 [(0, .ref (ad 65)), (2, .int v2)] [] st := by
  intro n
  induction n with
  | zero => intro v2 st h; cases h
  | succ n ih =>
    intro v2 st h
    change lpB_X0_take_48 K67 (lp_X0_take_48 K67 n) v2 st = some _ at h
    unfold lpB_X0_take_48 at h
    refine g_iload_n C dX0_take_48 rfl 1 rfl ?_
    refine g_bipush (v := (7 : Int32)) C dX0_take_49 (by decide) ?_
    refine g_icmp_ge (tgt := 67) C dX0_take_51 (by decide) h ?_ ?_
    · clear h; intro hc51 h
      refine g_sub (lv2 := [(0, .ref (ad 65))]) [0] rfl ?_
      exact hK67 _ h
    · clear h; intro hc51 h
      refine g_aload_n C dX0_take_54 rfl 0 rfl ?_
      refine g_getR (k2 := 69) C ok0 dX0_take_55 (hL 65 rfl) rfl 3 (by decide) lk_X0_22 rfl rfl ?_
      refine g_iload_n C dX0_take_58 rfl 1 rfl ?_
      refine g_iload_n C dX0_take_59 rfl 1 rfl ?_
      refine g_iast C dX0_take_60 (hL 69 rfl) rfl rfl h ?_
      clear h; intro s31 h
      refine g_iinc (lv' := fun y => [(2, .int y), (0, .ref (ad 65))]) C dX0_take_61 1 rfl rfl (by decide) (fun y => rfl) h ?_
      clear h; intro v32 h
      refine g_goto (tgt := 48) C dX0_take_64 (by decide) ?_
      refine g_sub (lv2 := [(0, .ref (ad 65)), (2, .int v32)]) [1, 0] rfl ?_
      exact ih _ _ h
set_option maxHeartbeats 4000000 in
set_option maxRecDepth 100000 in
theorem wlp_X0_take_74 (C : Cx p s m args c cX0_take RX0 6 D cy ad A L) (hr : meth.sig.returnType = none) (hlk : meth.locks = false) (hL : ∀ k, prF k = true → k ∈ L) {N : Nat} {st' : St} : ∀ (n : Nat) (v2 : Int32) (v3 : Int32) (st : St), lp_X0_take_74 N n v2 v3 st = some st' → Gm p l e (rmD 3) s m args below meth c D cy ad A L 6 0 0 (MQ below (QG D cy ad A L none st') args s 0 0 A) 74 [(0, .ref (ad 65)), (2, .int v2), (3, .int v3)] [] st := by
  intro n
  induction n with
  | zero => intro v2 v3 st h; cases h
  | succ n ih =>
    intro v2 v3 st h
    change lpB_X0_take_74 N (lp_X0_take_74 N n) v2 v3 st = some _ at h
    unfold lpB_X0_take_74 at h
    refine g_iload_n C dX0_take_74 rfl 2 rfl ?_
    refine g_aload_n C dX0_take_75 rfl 0 rfl ?_
    refine g_getR (k2 := 67) C ok0 dX0_take_76 (hL 65 rfl) rfl 1 (by decide) lk_X0_15 rfl rfl ?_
    refine g_alen (v := (49 : Int32)) C dX0_take_79 (hL 67 rfl) rfl rfl rfl ?_
    refine g_icmp_ge (tgt := 179) C dX0_take_80 (by decide) h ?_ ?_
    · clear h; intro hc80 h
      exact g_vret C hr hlk dX0_take_179 h
    · clear h; intro hc80 h
      refine g_iload_n C dX0_take_83 rfl 1 rfl ?_
      refine g_if_lt (tgt := 179) C dX0_take_84 (by decide) h ?_ ?_
      · clear h; intro hc84 h
        exact g_vret C hr hlk dX0_take_179 h
      · clear h; intro hc84 h
        refine g_iload_n C dX0_take_87 rfl 1 rfl ?_
        refine g_bipush (v := (7 : Int32)) C dX0_take_88 (by decide) ?_
        refine g_idiv C dX0_take_90 h ?_
        clear h; intro h
        refine g_istore (lv' := fun y => [(4, .int y), (0, .ref (ad 65)), (2, .int v2), (3, .int v3)]) C dX0_take_91 (by decide) (fun y => rfl) h ?_
        clear h; intro v37 h
        refine g_iload_n C dX0_take_93 rfl 2 rfl ?_
        refine g_bipush (v := (7 : Int32)) C dX0_take_94 (by decide) ?_
        refine g_irem C dX0_take_96 h ?_
        clear h; intro h
        refine g_istore (lv' := fun y => [(5, .int y), (4, .int v37), (0, .ref (ad 65)), (2, .int v2), (3, .int v3)]) C dX0_take_97 (by decide) (fun y => rfl) h ?_
        clear h; intro v38 h
        refine g_aload_n C dX0_take_99 rfl 2 rfl ?_
        refine g_getR (k2 := 68) C ok0 dX0_take_100 (hL 65 rfl) rfl 2 (by decide) lk_X0_19 rfl rfl ?_
        refine g_iload C dX0_take_103 1 rfl ?_
        refine g_iald C dX0_take_105 (hL 68 rfl) rfl rfl h ?_
        clear h; intro h
        refine g_iconst (v := (2 : Int32)) C dX0_take_106 (by decide) ?_
        replace h := lt_ex h
        obtain ⟨j40, ej40, h⟩ := h
        have hj40 : ∀ (s39 : St), j40 s39 = some st' → Gm p l e (rmD 3) s m args below meth c D cy ad A L 6 0 0 (MQ below (QG D cy ad A L none st') args s 0 0 A) 161 [(0, .ref (ad 65)), (2, .int v2), (3, .int v3)] [] s39 := by
          intro s39 h
          rw [ej40] at h
          dsimp only at h
          refine g_aload_n C dX0_take_161 rfl 0 rfl ?_
          refine g_getR (k2 := 67) C ok0 dX0_take_162 (hL 65 rfl) rfl 1 (by decide) lk_X0_15 rfl rfl ?_
          refine g_iload_n C dX0_take_165 rfl 1 rfl ?_
          refine g_iconst (v := (0 : Int32)) C dX0_take_166 (by decide) ?_
          refine g_iast C dX0_take_167 (hL 67 rfl) rfl rfl h ?_
          clear h; intro s41 h
          refine g_aload_n C dX0_take_168 rfl 0 rfl ?_
          replace h := bs_some h
          obtain ⟨r42, h1, h⟩ := h
          refine g_cV (As := []) (rest := []) (stk2 := [.int r42]) C mf_X0_greatest ok0 rfl lk_X0_42 in_X0_greatest se_X0_greatest dX0_take_169 (hL 65 rfl) rfl rfl rfl rfl ⟨Nat.le_of_ble_eq_true rfl, Nat.le_of_ble_eq_true rfl⟩ (Nat.le_of_ble_eq_true rfl) ⟨Nat.le_refl 0, Nat.le_refl 0⟩ (ct_X0_greatest hL h1) ?_
          refine g_istore_n (lv' := fun y => [(2, .int y), (0, .ref (ad 65)), (3, .int v3)]) C dX0_take_172 rfl (by decide) (fun y => rfl) h ?_
          clear h; intro v43 h
          refine g_iinc (lv' := fun y => [(3, .int y), (2, .int v43), (0, .ref (ad 65))]) C dX0_take_173 2 rfl rfl (by decide) (fun y => rfl) h ?_
          clear h; intro v44 h
          refine g_goto (tgt := 74) C dX0_take_176 (by decide) ?_
          refine g_sub (lv2 := [(0, .ref (ad 65)), (2, .int v43), (3, .int v44)]) [2, 1, 0] rfl ?_
          exact ih _ _ _ h
        refine g_icmp_ge (tgt := 161) C dX0_take_107 (by decide) h ?_ ?_
        · clear h; intro hc107 h
          refine g_sub (lv2 := [(0, .ref (ad 65)), (2, .int v2), (3, .int v3)]) [2, 3, 4] rfl ?_
          exact hj40 _ h
        · clear h; intro hc107 h
          refine g_aload_n C dX0_take_110 rfl 2 rfl ?_
          refine g_getR (k2 := 68) C ok0 dX0_take_111 (hL 65 rfl) rfl 2 (by decide) lk_X0_19 rfl rfl ?_
          refine g_iload C dX0_take_114 0 rfl ?_
          refine g_iald C dX0_take_116 (hL 68 rfl) rfl rfl h ?_
          clear h; intro h
          refine g_iconst (v := (2 : Int32)) C dX0_take_117 (by decide) ?_
          refine g_icmp_ge (tgt := 161) C dX0_take_118 (by decide) h ?_ ?_
          · clear h; intro hc118 h
            refine g_sub (lv2 := [(0, .ref (ad 65)), (2, .int v2), (3, .int v3)]) [2, 3, 4] rfl ?_
            exact hj40 _ h
          · clear h; intro hc118 h
            refine g_aload_n C dX0_take_121 rfl 2 rfl ?_
            refine g_getR (k2 := 69) C ok0 dX0_take_122 (hL 65 rfl) rfl 3 (by decide) lk_X0_22 rfl rfl ?_
            refine g_iload C dX0_take_125 1 rfl ?_
            refine g_iald C dX0_take_127 (hL 69 rfl) rfl rfl h ?_
            clear h; intro h
            refine g_aload_n C dX0_take_128 rfl 2 rfl ?_
            refine g_getR (k2 := 69) C ok0 dX0_take_129 (hL 65 rfl) rfl 3 (by decide) lk_X0_22 rfl rfl ?_
            refine g_iload C dX0_take_132 0 rfl ?_
            refine g_iald C dX0_take_134 (hL 69 rfl) rfl rfl h ?_
            clear h; intro h
            refine g_icmp_eq (tgt := 161) C dX0_take_135 (by decide) h ?_ ?_
            · clear h; intro hc135 h
              refine g_sub (lv2 := [(0, .ref (ad 65)), (2, .int v2), (3, .int v3)]) [2, 3, 4] rfl ?_
              exact hj40 _ h
            · clear h; intro hc135 h
              refine g_aload_n C dX0_take_138 rfl 2 rfl ?_
              refine g_iload C dX0_take_139 1 rfl ?_
              refine g_iload C dX0_take_141 0 rfl ?_
              replace h := bs_some h
              obtain ⟨s45, h1, h⟩ := h
              refine g_cV (As := [.int v37, .int v38]) (rest := []) (stk2 := []) C mf_X0_join ok0 rfl lk_X0_46 in_X0_join se_X0_join dX0_take_143 (hL 65 rfl) rfl rfl rfl rfl ⟨Nat.le_of_ble_eq_true rfl, Nat.le_of_ble_eq_true rfl⟩ (Nat.le_of_ble_eq_true rfl) ⟨Nat.le_refl 0, Nat.le_refl 0⟩ (ct_X0_join hL h1) ?_
              refine g_aload_n C dX0_take_146 rfl 2 rfl ?_
              refine g_dup C dX0_take_147 rfl ?_
              refine g_getI C ok0 dX0_take_148 (hL 65 rfl) rfl 5 (by decide) lk_X0_39 rfl ?_
              refine g_aload_n C dX0_take_151 rfl 2 rfl ?_
              refine g_getR (k2 := 67) C ok0 dX0_take_152 (hL 65 rfl) rfl 1 (by decide) lk_X0_15 rfl rfl ?_
              refine g_iload_n C dX0_take_155 rfl 3 rfl ?_
              refine g_iald C dX0_take_156 (hL 67 rfl) rfl rfl h ?_
              clear h; intro h
              refine g_isub C dX0_take_157 ?_
              refine g_put (ty := .int) C ok0 dX0_take_158 (hL 65 rfl) rfl 5 (by decide) lk_X0_39 rfl (tyX0_ok 5 (by decide)) rfl rfl rfl h ?_
              clear h; intro s46 h
              refine g_sub (lv2 := [(0, .ref (ad 65)), (2, .int v2), (3, .int v3)]) [2, 3, 4] rfl ?_
              exact hj40 _ h
set_option maxHeartbeats 4000000 in
set_option maxRecDepth 100000 in
theorem ct_X0_take {N : Nat} (hL : ∀ k, prF k = true → k ∈ L) {st st' : St} (h : F_X0_take N st = some st') : Ct l D cy ad A L yX0_take cX0_take 6 none 3 [.ref (ad 65), .ref (ad 26)] st none st' := by
  unfold F_X0_take at h
  refine ct_of (own := RX0) (by decide) rfl (Nat.le_of_ble_eq_true rfl) ?_
  intro p e s m args below meth c C hr hlk
  refine g_sub (lv2 := [(0, .ref (ad 65)), (1, .ref (ad 26))]) [0, 1] rfl ?_
  refine g_aload_n C dX0_take_0 rfl 0 rfl ?_
  refine g_getR (k2 := 68) C ok0 dX0_take_1 (hL 65 rfl) rfl 2 (by decide) lk_X0_19 rfl rfl ?_
  refine g_iconst (v := (0 : Int32)) C dX0_take_4 (by decide) ?_
  replace h := bs_some h
  obtain ⟨s21, h1, h⟩ := h
  refine g_cS (As := [.ref (ad 68), .int (0 : Int32)]) (rest := []) (stk2 := []) C mf_J7_fill_53178 lk_X0_25 sm_J7_fill_53178 dX0_take_5 rfl rfl rfl ⟨Nat.le_of_ble_eq_true rfl, Nat.le_of_ble_eq_true rfl⟩ (Nat.le_of_ble_eq_true rfl) ⟨Nat.le_refl 0, Nat.le_refl 0⟩ (ct_J7_fill_53178 (hL 68 rfl) h1) ?_
  refine g_aload_n C dX0_take_8 rfl 0 rfl ?_
  refine g_iconst (v := (0 : Int32)) C dX0_take_9 (by decide) ?_
  refine g_put (ty := .int) C ok0 dX0_take_10 (hL 65 rfl) rfl 4 (by decide) lk_X0_31 rfl (tyX0_ok 4 (by decide)) rfl rfl rfl h ?_
  clear h; intro s22 h
  refine g_aload_n C dX0_take_13 rfl 0 rfl ?_
  refine g_aload_n C dX0_take_14 rfl 0 rfl ?_
  refine g_aload_n C dX0_take_15 rfl 1 rfl ?_
  replace h := bd_some h
  obtain ⟨r23, s24, h1, h⟩ := h
  refine g_cV (As := [.ref (ad 26)]) (rest := [.ref (ad 65)]) (stk2 := [.int r23, .ref (ad 65)]) C mf_X0_load ok0 rfl lk_X0_35 in_X0_load se_X0_load dX0_take_16 (hL 65 rfl) rfl rfl rfl rfl ⟨Nat.le_of_ble_eq_true rfl, Nat.le_of_ble_eq_true rfl⟩ (Nat.le_of_ble_eq_true rfl) ⟨Nat.le_refl 0, Nat.le_refl 0⟩ (ct_X0_load hL h1) ?_
  refine g_put (ty := .int) C ok0 dX0_take_19 (hL 65 rfl) rfl 5 (by decide) lk_X0_39 rfl (tyX0_ok 5 (by decide)) rfl rfl rfl h ?_
  clear h; intro s25 h
  refine g_iconst (v := (0 : Int32)) C dX0_take_22 (by decide) ?_
  refine g_istore_n (lv' := fun y => [(2, .int y), (0, .ref (ad 65)), (1, .ref (ad 26))]) C dX0_take_23 rfl (by decide) (fun y => rfl) h ?_
  clear h; intro v26 h
  refine g_sub (lv2 := [(0, .ref (ad 65)), (2, .int v26)]) [1, 0] rfl ?_
  refine wlp_X0_take_24 (N := N) C hr hlk hL ?_ _ _ _ h
  · intro s29 h
    refine g_iconst (v := (0 : Int32)) C dX0_take_46 (by decide) ?_
    refine g_istore_n (lv' := fun y => [(2, .int y), (0, .ref (ad 65))]) C dX0_take_47 rfl (by decide) (fun y => rfl) h ?_
    clear h; intro v30 h
    refine g_sub (lv2 := [(0, .ref (ad 65)), (2, .int v30)]) [1, 0] rfl ?_
    refine wlp_X0_take_48 (N := N) C hr hlk hL ?_ _ _ _ h
    · intro s33 h
      refine g_aload_n C dX0_take_67 rfl 0 rfl ?_
      replace h := bs_some h
      obtain ⟨r34, h1, h⟩ := h
      refine g_cV (As := []) (rest := []) (stk2 := [.int r34]) C mf_X0_greatest ok0 rfl lk_X0_42 in_X0_greatest se_X0_greatest dX0_take_68 (hL 65 rfl) rfl rfl rfl rfl ⟨Nat.le_of_ble_eq_true rfl, Nat.le_of_ble_eq_true rfl⟩ (Nat.le_of_ble_eq_true rfl) ⟨Nat.le_refl 0, Nat.le_refl 0⟩ (ct_X0_greatest hL h1) ?_
      refine g_istore_n (lv' := fun y => [(2, .int y), (0, .ref (ad 65))]) C dX0_take_71 rfl (by decide) (fun y => rfl) h ?_
      clear h; intro v35 h
      refine g_iconst (v := (0 : Int32)) C dX0_take_72 (by decide) ?_
      refine g_istore_n (lv' := fun y => [(3, .int y), (2, .int v35), (0, .ref (ad 65))]) C dX0_take_73 rfl (by decide) (fun y => rfl) h ?_
      clear h; intro v36 h
      refine g_sub (lv2 := [(0, .ref (ad 65)), (2, .int v35), (3, .int v36)]) [2, 1, 0] rfl ?_
      refine wlp_X0_take_74 (N := N) C hr hlk hL  _ _ _ _ h
-- X0_has
def F_X0_has (v1 : Int32) (v2 : Int32) (st : St) : Option (Int32) :=
  ck (inb ((v1 * (7 : Int32)) + v2) 49) (ck (decide (narrow .boolean (.int (st 66 ((v1 * (7 : Int32)) + v2).toNatClampNeg)) = .int (st 66 ((v1 * (7 : Int32)) + v2).toNatClampNeg))) (some (st 66 ((v1 * (7 : Int32)) + v2).toNatClampNeg)))
set_option maxHeartbeats 4000000 in
set_option maxRecDepth 100000 in
theorem ct_X0_has (hL : ∀ k, prF k = true → k ∈ L) {v1 : Int32} {v2 : Int32} {st : St} {r' : Int32} (h : F_X0_has v1 v2 st = some r') : Ct l D cy ad A L yX0_has cX0_has 3 (some .boolean) 1 [.ref (ad 65), .int v1, .int v2] st (some (.int r')) st := by
  unfold F_X0_has at h
  refine ct_of (own := RX0) (by decide) rfl (Nat.le_of_ble_eq_true rfl) ?_
  intro p e s m args below meth c C hr hlk
  refine g_sub (lv2 := [(0, .ref (ad 65)), (1, .int v1), (2, .int v2)]) [0, 1, 2] rfl ?_
  refine g_aload_n C dX0_has_0 rfl 0 rfl ?_
  refine g_getR (k2 := 66) C ok0 dX0_has_1 (hL 65 rfl) rfl 0 (by decide) lk_X0_9 rfl rfl ?_
  refine g_iload_n C dX0_has_4 rfl 1 rfl ?_
  refine g_bipush (v := (7 : Int32)) C dX0_has_5 (by decide) ?_
  refine g_imul C dX0_has_7 ?_
  refine g_iload_n C dX0_has_8 rfl 2 rfl ?_
  refine g_iadd C dX0_has_9 ?_
  refine g_zald C dX0_has_10 (hL 66 rfl) rfl rfl h ?_
  clear h; intro h
  exact g_zretP C hr hlk dX0_has_11 h
-- X7_taken
def F_X7_taken (N : Nat) (v1 : Int32) (v2 : Int32) (st : St) : Option (Int32 × St) :=
  bs (F_X7_isVariable v1) (fun (r21 : Int32) => (if r21 = 0 then some ((-1 : Int32), st) else bs (F_X7_isVariable v2) (fun (r22 : Int32) => (if r22 = 0 then some ((-1 : Int32), st) else bs (F_X7_weights N st) (fun (s23 : St) => bs (F_X0_take N s23) (fun (s24 : St) => bs (F_X0_has v1 v2 s24) (fun (r25 : Int32) => (if r25 = 0 then some ((0 : Int32), s24) else some ((1 : Int32), s24)))))))))
set_option maxHeartbeats 4000000 in
set_option maxRecDepth 100000 in
theorem ct_X7_taken {N : Nat} (hL : ∀ k, prF k = true → k ∈ L) {v1 : Int32} {v2 : Int32} {st st' : St} {r' : Int32} (h : F_X7_taken N v1 v2 st = some (r', st')) : Ct l D cy ad A L yX7_taken cX7_taken 3 (some .int) 5 [.ref (ad 0), .int v1, .int v2] st (some (.int r')) st' := by
  unfold F_X7_taken at h
  refine ct_of (own := RX7) (by decide) rfl (Nat.le_of_ble_eq_true rfl) ?_
  intro p e s m args below meth c C hr hlk
  refine g_sub (lv2 := [(0, .ref (ad 0)), (1, .int v1), (2, .int v2)]) [0, 1, 2] rfl ?_
  refine g_iload_n C dX7_taken_0 rfl 1 rfl ?_
  replace h := bs_some h
  obtain ⟨r21, h1, h⟩ := h
  refine g_cS (As := [.int v1]) (rest := []) (stk2 := [.int r21]) C mf_X7_isVariable lk_X7_54 sm_X7_isVariable dX7_taken_1 rfl rfl rfl ⟨Nat.le_of_ble_eq_true rfl, Nat.le_of_ble_eq_true rfl⟩ (Nat.le_of_ble_eq_true rfl) ⟨Nat.le_refl 0, Nat.le_refl 0⟩ (ct_X7_isVariable hL h1) ?_
  refine g_if_eq (tgt := 14) C dX7_taken_4 (by decide) h ?_ ?_
  · clear h; intro hc4 h
    refine g_iconst (v := (-1 : Int32)) C dX7_taken_14 (by decide) ?_
    exact g_iret C hr hlk dX7_taken_15 h
  · clear h; intro hc4 h
    refine g_iload_n C dX7_taken_7 rfl 2 rfl ?_
    replace h := bs_some h
    obtain ⟨r22, h1, h⟩ := h
    refine g_cS (As := [.int v2]) (rest := []) (stk2 := [.int r22]) C mf_X7_isVariable lk_X7_54 sm_X7_isVariable dX7_taken_8 rfl rfl rfl ⟨Nat.le_of_ble_eq_true rfl, Nat.le_of_ble_eq_true rfl⟩ (Nat.le_of_ble_eq_true rfl) ⟨Nat.le_refl 0, Nat.le_refl 0⟩ (ct_X7_isVariable hL h1) ?_
    refine g_if_ne (tgt := 16) C dX7_taken_11 (by decide) h ?_ ?_
    · clear h; intro hc11 h
      refine g_aload_n C dX7_taken_16 rfl 0 rfl ?_
      refine g_getR (k2 := 65) C ok7 dX7_taken_17 (hL 0 rfl) rfl 6 (by decide) lk_X7_50 rfl rfl ?_
      refine g_aload_n C dX7_taken_20 rfl 0 rfl ?_
      replace h := bs_some h
      obtain ⟨s23, h1, h⟩ := h
      refine g_cV (As := []) (rest := [.ref (ad 65)]) (stk2 := [.ref (ad 26), .ref (ad 65)]) C mf_X7_weights ok7 rfl lk_X7_144 in_X7_weights se_X7_weights dX7_taken_21 (hL 0 rfl) rfl rfl rfl rfl ⟨Nat.le_of_ble_eq_true rfl, Nat.le_of_ble_eq_true rfl⟩ (Nat.le_of_ble_eq_true rfl) ⟨Nat.le_refl 0, Nat.le_refl 0⟩ (ct_X7_weights hL h1) ?_
      replace h := bs_some h
      obtain ⟨s24, h1, h⟩ := h
      refine g_cV (As := [.ref (ad 26)]) (rest := []) (stk2 := []) C mf_X0_take ok0 rfl lk_X7_148 in_X0_take se_X0_take dX7_taken_24 (hL 65 rfl) rfl rfl rfl rfl ⟨Nat.le_of_ble_eq_true rfl, Nat.le_of_ble_eq_true rfl⟩ (Nat.le_of_ble_eq_true rfl) ⟨Nat.le_refl 0, Nat.le_refl 0⟩ (ct_X0_take hL h1) ?_
      refine g_aload_n C dX7_taken_27 rfl 0 rfl ?_
      refine g_getR (k2 := 65) C ok7 dX7_taken_28 (hL 0 rfl) rfl 6 (by decide) lk_X7_50 rfl rfl ?_
      refine g_iload_n C dX7_taken_31 rfl 1 rfl ?_
      refine g_iload_n C dX7_taken_32 rfl 2 rfl ?_
      replace h := bs_some h
      obtain ⟨r25, h1, h⟩ := h
      refine g_cV (As := [.int v1, .int v2]) (rest := []) (stk2 := [.int r25]) C mf_X0_has ok0 rfl lk_X7_152 in_X0_has se_X0_has dX7_taken_33 (hL 65 rfl) rfl rfl rfl rfl ⟨Nat.le_of_ble_eq_true rfl, Nat.le_of_ble_eq_true rfl⟩ (Nat.le_of_ble_eq_true rfl) ⟨Nat.le_refl 0, Nat.le_refl 0⟩ (ct_X0_has hL h1) ?_
      refine g_if_eq (tgt := 43) C dX7_taken_36 (by decide) h ?_ ?_
      · clear h; intro hc36 h
        refine g_iconst (v := (0 : Int32)) C dX7_taken_43 (by decide) ?_
        exact g_iret C hr hlk dX7_taken_44 h
      · clear h; intro hc36 h
        refine g_iconst (v := (1 : Int32)) C dX7_taken_39 (by decide) ?_
        refine g_goto (tgt := 44) C dX7_taken_40 (by decide) ?_
        exact g_iret C hr hlk dX7_taken_44 h
    · clear h; intro hc11 h
      refine g_iconst (v := (-1 : Int32)) C dX7_taken_14 (by decide) ?_
      exact g_iret C hr hlk dX7_taken_15 h
end SM
