section SM
variable {p : Program} {l : Launch} {e : Env} {s : State} {m : MethodId} {args : Array Value} {below : List Frame} {meth : Method} {c : Code} {D : va_G} {cy : Nat → ClassId} {ad : Nat → Nat} {A : Nat → Prop} {L : List Nat}
-- X7_told
def F_X7_told (v1 : Int32) (v2 : Int32) (st : St) : Option (Int32) :=
  bs (F_X5_has v1 st) (fun (r21 : Int32) => (if r21 = 0 then some (-1 : Int32) else if v2 = (0 : Int32) then ck (inb v1 10) (some (st 2 v1.toNatClampNeg)) else (if v2 = (1 : Int32) then ck (inb v1 10) (some (st 3 v1.toNatClampNeg)) else (if v2 = (2 : Int32) then ck (inb v1 10) (some (st 4 v1.toNatClampNeg)) else (if v2 = (3 : Int32) then ck (inb v1 10) ((if (st 2 v1.toNatClampNeg) = 0 then some (-6 : Int32) else ck (inb v1 10) (some (st 5 v1.toNatClampNeg)))) else (some (-2 : Int32)))))))
set_option maxHeartbeats 4000000 in
set_option maxRecDepth 100000 in
theorem ct_X7_told (hL : ∀ k, prF k = true → k ∈ L) {v1 : Int32} {v2 : Int32} {st : St} {r' : Int32} (h : F_X7_told v1 v2 st = some r') : Ct l D cy ad A L yX7_told cX7_told 3 (some .int) 2 [.ref (ad 0), .int v1, .int v2] st (some (.int r')) st := by
  unfold F_X7_told at h
  refine ct_of (own := RX7) (by decide) rfl (Nat.le_of_ble_eq_true rfl) ?_
  intro p e s m args below meth c C hr hlk
  refine g_sub (lv2 := [(0, .ref (ad 0)), (1, .int v1), (2, .int v2)]) [0, 1, 2] rfl ?_
  refine g_aload_n C dX7_told_0 rfl 0 rfl ?_
  refine g_getR (k2 := 1) C ok7 dX7_told_1 (hL 0 rfl) rfl 0 (by decide) lk_X7_12 rfl rfl ?_
  refine g_iload_n C dX7_told_4 rfl 1 rfl ?_
  replace h := bs_some h
  obtain ⟨r21, h1, h⟩ := h
  refine g_cV (As := [.int v1]) (rest := []) (stk2 := [.int r21]) C mf_X5_has ok5 rfl lk_X7_69 in_X5_has se_X5_has dX7_told_5 (hL 1 rfl) rfl rfl rfl rfl ⟨Nat.le_of_ble_eq_true rfl, Nat.le_of_ble_eq_true rfl⟩ (Nat.le_of_ble_eq_true rfl) ⟨Nat.le_refl 0, Nat.le_refl 0⟩ (ct_X5_has hL h1) ?_
  refine g_if_ne (tgt := 13) C dX7_told_8 (by decide) h ?_ ?_
  · clear h; intro hc8 h
    refine g_iload_n C dX7_told_13 rfl 2 rfl ?_
    by_cases hs0 : v2 = (0 : Int32)
    · rw [if_pos hs0] at h
      refine g_swIn (k := (0 : Int32)) (tgt := 44) C dX7_told_14 hs0 (by decide) (by decide) rfl (by decide) ?_
      refine g_aload_n C dX7_told_44 rfl 0 rfl ?_
      refine g_getR (k2 := 1) C ok7 dX7_told_45 (hL 0 rfl) rfl 0 (by decide) lk_X7_12 rfl rfl ?_
      refine g_getR (k2 := 2) C ok5 dX7_told_48 (hL 1 rfl) rfl 1 (by decide) lk_X7_76 rfl rfl ?_
      refine g_iload_n C dX7_told_51 rfl 1 rfl ?_
      refine g_iald C dX7_told_52 (hL 2 rfl) rfl rfl h ?_
      clear h; intro h
      exact g_iretP C hr hlk dX7_told_53 h
    · rw [if_neg hs0] at h
      by_cases hs1 : v2 = (1 : Int32)
      · rw [if_pos hs1] at h
        refine g_swIn (k := (1 : Int32)) (tgt := 54) C dX7_told_14 hs1 (by decide) (by decide) rfl (by decide) ?_
        refine g_aload_n C dX7_told_54 rfl 0 rfl ?_
        refine g_getR (k2 := 1) C ok7 dX7_told_55 (hL 0 rfl) rfl 0 (by decide) lk_X7_12 rfl rfl ?_
        refine g_getR (k2 := 3) C ok5 dX7_told_58 (hL 1 rfl) rfl 2 (by decide) lk_X7_86 rfl rfl ?_
        refine g_iload_n C dX7_told_61 rfl 1 rfl ?_
        refine g_iald C dX7_told_62 (hL 3 rfl) rfl rfl h ?_
        clear h; intro h
        exact g_iretP C hr hlk dX7_told_63 h
      · rw [if_neg hs1] at h
        by_cases hs2 : v2 = (2 : Int32)
        · rw [if_pos hs2] at h
          refine g_swIn (k := (2 : Int32)) (tgt := 64) C dX7_told_14 hs2 (by decide) (by decide) rfl (by decide) ?_
          refine g_aload_n C dX7_told_64 rfl 0 rfl ?_
          refine g_getR (k2 := 1) C ok7 dX7_told_65 (hL 0 rfl) rfl 0 (by decide) lk_X7_12 rfl rfl ?_
          refine g_getR (k2 := 4) C ok5 dX7_told_68 (hL 1 rfl) rfl 3 (by decide) lk_X7_80 rfl rfl ?_
          refine g_iload_n C dX7_told_71 rfl 1 rfl ?_
          refine g_iald C dX7_told_72 (hL 4 rfl) rfl rfl h ?_
          clear h; intro h
          exact g_iretP C hr hlk dX7_told_73 h
        · rw [if_neg hs2] at h
          by_cases hs3 : v2 = (3 : Int32)
          · rw [if_pos hs3] at h
            refine g_swIn (k := (3 : Int32)) (tgt := 74) C dX7_told_14 hs3 (by decide) (by decide) rfl (by decide) ?_
            refine g_aload_n C dX7_told_74 rfl 0 rfl ?_
            refine g_getR (k2 := 1) C ok7 dX7_told_75 (hL 0 rfl) rfl 0 (by decide) lk_X7_12 rfl rfl ?_
            refine g_getR (k2 := 2) C ok5 dX7_told_78 (hL 1 rfl) rfl 1 (by decide) lk_X7_76 rfl rfl ?_
            refine g_iload_n C dX7_told_81 rfl 1 rfl ?_
            refine g_iald C dX7_told_82 (hL 2 rfl) rfl rfl h ?_
            clear h; intro h
            refine g_if_ne (tgt := 91) C dX7_told_83 (by decide) h ?_ ?_
            · clear h; intro hc83 h
              refine g_aload_n C dX7_told_91 rfl 0 rfl ?_
              refine g_getR (k2 := 1) C ok7 dX7_told_92 (hL 0 rfl) rfl 0 (by decide) lk_X7_12 rfl rfl ?_
              refine g_getR (k2 := 5) C ok5 dX7_told_95 (hL 1 rfl) rfl 4 (by decide) lk_X7_83 rfl rfl ?_
              refine g_iload_n C dX7_told_98 rfl 1 rfl ?_
              refine g_iald C dX7_told_99 (hL 5 rfl) rfl rfl h ?_
              clear h; intro h
              exact g_iretP C hr hlk dX7_told_100 h
            · clear h; intro hc83 h
              refine g_bipush (v := (-6 : Int32)) C dX7_told_86 (by decide) ?_
              refine g_goto (tgt := 100) C dX7_told_88 (by decide) ?_
              exact g_iretP C hr hlk dX7_told_100 h
          · rw [if_neg hs3] at h
            have hn0 : ¬ v2.toInt = 0 := fun q => hs0 (Int32.toInt_inj.mp (by rw [q]; decide))
            have hn1 : ¬ v2.toInt = 1 := fun q => hs1 (Int32.toInt_inj.mp (by rw [q]; decide))
            have hn2 : ¬ v2.toInt = 2 := fun q => hs2 (Int32.toInt_inj.mp (by rw [q]; decide))
            have hn3 : ¬ v2.toInt = 3 := fun q => hs3 (Int32.toInt_inj.mp (by rw [q]; decide))
            refine g_swOut (tgt := 101) C dX7_told_14 (by omega) (by decide) ?_
            refine g_bipush (v := (-2 : Int32)) C dX7_told_101 (by decide) ?_
            exact g_iretP C hr hlk dX7_told_103 h
  · clear h; intro hc8 h
    refine g_iconst (v := (-1 : Int32)) C dX7_told_11 (by decide) ?_
    exact g_iretP C hr hlk dX7_told_12 h
-- X7_free
def F_X7_free (N : Nat) (v1 : Int32) (v2 : Int32) (st : St) : Option (Int32 × St) :=
  (if v1 < (1 : Int32) then some ((-2 : Int32), st) else (if (6 : Int32) < v1 then some ((-2 : Int32), st) else (if v2 < 0 then some ((-2 : Int32), st) else (if v2 ≤ (1 : Int32) then lt ((st 1 5) &&& (((1 : Int32) <<< (v1 &&& 31)) ^^^ (-1 : Int32))) (fun (v21 : Int32) => lt (v21 ||| (v2 <<< (v1 &&& 31))) (fun (v22 : Int32) => (if v22 = (st 1 5) then some ((st 1 5), st) else lt (up st 1 5 v22) (fun (s23 : St) => bs (F_X7_changed N s23) (fun (s24 : St) => some ((s24 1 5), s24)))))) else some ((-2 : Int32), st)))))
set_option maxHeartbeats 4000000 in
set_option maxRecDepth 100000 in
theorem ct_X7_free {N : Nat} (hL : ∀ k, prF k = true → k ∈ L) {v1 : Int32} {v2 : Int32} {st st' : St} {r' : Int32} (h : F_X7_free N v1 v2 st = some (r', st')) : Ct l D cy ad A L yX7_free cX7_free 5 (some .int) 4 [.ref (ad 0), .int v1, .int v2] st (some (.int r')) st' := by
  unfold F_X7_free at h
  refine ct_of (own := RX7) (by decide) rfl (Nat.le_of_ble_eq_true rfl) ?_
  intro p e s m args below meth c C hr hlk
  refine g_sub (lv2 := [(0, .ref (ad 0)), (1, .int v1), (2, .int v2)]) [0, 1, 2] rfl ?_
  refine g_iload_n C dX7_free_0 rfl 1 rfl ?_
  refine g_iconst (v := (1 : Int32)) C dX7_free_1 (by decide) ?_
  refine g_icmp_lt (tgt := 20) C dX7_free_2 (by decide) h ?_ ?_
  · clear h; intro hc2 h
    refine g_bipush (v := (-2 : Int32)) C dX7_free_20 (by decide) ?_
    exact g_iret C hr hlk dX7_free_22 h
  · clear h; intro hc2 h
    refine g_iload_n C dX7_free_5 rfl 1 rfl ?_
    refine g_bipush (v := (6 : Int32)) C dX7_free_6 (by decide) ?_
    refine g_icmp_gt (tgt := 20) C dX7_free_8 (by decide) h ?_ ?_
    · clear h; intro hc8 h
      refine g_bipush (v := (-2 : Int32)) C dX7_free_20 (by decide) ?_
      exact g_iret C hr hlk dX7_free_22 h
    · clear h; intro hc8 h
      refine g_iload_n C dX7_free_11 rfl 2 rfl ?_
      refine g_if_lt (tgt := 20) C dX7_free_12 (by decide) h ?_ ?_
      · clear h; intro hc12 h
        refine g_bipush (v := (-2 : Int32)) C dX7_free_20 (by decide) ?_
        exact g_iret C hr hlk dX7_free_22 h
      · clear h; intro hc12 h
        refine g_iload_n C dX7_free_15 rfl 2 rfl ?_
        refine g_iconst (v := (1 : Int32)) C dX7_free_16 (by decide) ?_
        refine g_icmp_le (tgt := 23) C dX7_free_17 (by decide) h ?_ ?_
        · clear h; intro hc17 h
          refine g_aload_n C dX7_free_23 rfl 0 rfl ?_
          refine g_getR (k2 := 1) C ok7 dX7_free_24 (hL 0 rfl) rfl 0 (by decide) lk_X7_12 rfl rfl ?_
          refine g_getI C ok5 dX7_free_27 (hL 1 rfl) rfl 5 (by decide) lk_X7_89 rfl ?_
          refine g_iconst (v := (1 : Int32)) C dX7_free_30 (by decide) ?_
          refine g_iload_n C dX7_free_31 rfl 1 rfl ?_
          refine g_ishl C dX7_free_32 ?_
          refine g_iconst (v := (-1 : Int32)) C dX7_free_33 (by decide) ?_
          refine g_ixor C dX7_free_34 ?_
          refine g_iand C dX7_free_35 ?_
          refine g_istore_n (lv' := fun y => [(3, .int y), (0, .ref (ad 0)), (1, .int v1), (2, .int v2)]) C dX7_free_36 rfl (by decide) (fun y => rfl) h ?_
          clear h; intro v21 h
          refine g_iload_n C dX7_free_37 rfl 0 rfl ?_
          refine g_iload_n C dX7_free_38 rfl 3 rfl ?_
          refine g_iload_n C dX7_free_39 rfl 2 rfl ?_
          refine g_ishl C dX7_free_40 ?_
          refine g_ior C dX7_free_41 ?_
          refine g_istore (lv' := fun y => [(4, .int y), (3, .int v21), (0, .ref (ad 0)), (1, .int v1), (2, .int v2)]) C dX7_free_42 (by decide) (fun y => rfl) h ?_
          clear h; intro v22 h
          refine g_iload C dX7_free_44 0 rfl ?_
          refine g_aload_n C dX7_free_46 rfl 2 rfl ?_
          refine g_getR (k2 := 1) C ok7 dX7_free_47 (hL 0 rfl) rfl 0 (by decide) lk_X7_12 rfl rfl ?_
          refine g_getI C ok5 dX7_free_50 (hL 1 rfl) rfl 5 (by decide) lk_X7_89 rfl ?_
          refine g_icmp_eq (tgt := 69) C dX7_free_53 (by decide) h ?_ ?_
          · clear h; intro hc53 h
            refine g_aload_n C dX7_free_69 rfl 2 rfl ?_
            refine g_getR (k2 := 1) C ok7 dX7_free_70 (hL 0 rfl) rfl 0 (by decide) lk_X7_12 rfl rfl ?_
            refine g_getI C ok5 dX7_free_73 (hL 1 rfl) rfl 5 (by decide) lk_X7_89 rfl ?_
            exact g_iret C hr hlk dX7_free_76 h
          · clear h; intro hc53 h
            refine g_aload_n C dX7_free_56 rfl 2 rfl ?_
            refine g_getR (k2 := 1) C ok7 dX7_free_57 (hL 0 rfl) rfl 0 (by decide) lk_X7_12 rfl rfl ?_
            refine g_iload C dX7_free_60 0 rfl ?_
            refine g_put (ty := .int) C ok5 dX7_free_62 (hL 1 rfl) rfl 5 (by decide) lk_X7_89 rfl (tyX5_ok 5 (by decide)) rfl rfl rfl h ?_
            clear h; intro s23 h
            refine g_aload_n C dX7_free_65 rfl 2 rfl ?_
            replace h := bs_some h
            obtain ⟨s24, h1, h⟩ := h
            refine g_cV (As := []) (rest := []) (stk2 := []) C mf_X7_changed ok7 rfl lk_X7_66 in_X7_changed se_X7_changed dX7_free_66 (hL 0 rfl) rfl rfl rfl rfl ⟨Nat.le_of_ble_eq_true rfl, Nat.le_of_ble_eq_true rfl⟩ (Nat.le_of_ble_eq_true rfl) ⟨Nat.le_refl 0, Nat.le_refl 0⟩ (ct_X7_changed hL h1) ?_
            refine g_aload_n C dX7_free_69 rfl 2 rfl ?_
            refine g_getR (k2 := 1) C ok7 dX7_free_70 (hL 0 rfl) rfl 0 (by decide) lk_X7_12 rfl rfl ?_
            refine g_getI C ok5 dX7_free_73 (hL 1 rfl) rfl 5 (by decide) lk_X7_89 rfl ?_
            exact g_iret C hr hlk dX7_free_76 h
        · clear h; intro hc17 h
          refine g_bipush (v := (-2 : Int32)) C dX7_free_20 (by decide) ?_
          exact g_iret C hr hlk dX7_free_22 h
-- X7_set
def lpB_X7_set_24 (st : St) (self : Int32 → Int32 → Option (Int32 × St)) (v3 : Int32) (v4 : Int32) : Option (Int32 × St) :=
  (if (7 : Int32) ≤ v4 then some (v3, st) else ck (inb v4 7) ((if (st 6 v4.toNatClampNeg) = 0 then lt (v4 + (1 : Int32)) (fun (v25 : Int32) => self v3 v25) else lt (v3 + (1 : Int32)) (fun (v26 : Int32) => lt (v4 + (1 : Int32)) (fun (v27 : Int32) => self v26 v27)))))
def lp_X7_set_24 (st : St) : Nat → Int32 → Int32 → Option (Int32 × St) := itf (lpB_X7_set_24 st) (fun _ _ => none)
def F_X7_set (N : Nat) (v1 : Int32) (v2 : Int32) (st : St) : Option (Int32 × St) :=
  bs (F_X7_isVariable v1) (fun (r21 : Int32) => (if r21 = 0 then some ((-1 : Int32), st) else ck (inb v1 7) (lt (up st 6 v1.toNatClampNeg v2) (fun (s22 : St) => lt (0 : Int32) (fun (v23 : Int32) => lt (0 : Int32) (fun (v24 : Int32) => lp_X7_set_24 s22  N v23 v24))))))
set_option maxHeartbeats 4000000 in
set_option maxRecDepth 100000 in
theorem wlp_X7_set_24 (C : Cx p s m args c cX7_set RX7 5 D cy ad A L) (hr : meth.sig.returnType = (some .int)) (hlk : meth.locks = false) (hL : ∀ k, prF k = true → k ∈ L) {N : Nat} {r' : Int32} {st' : St} {st : St} : ∀ (n : Nat) (v3 : Int32) (v4 : Int32), lp_X7_set_24 st n v3 v4 = some (r', st') → Gm p l e (rmD 2) s m args below meth c D cy ad A L 5 0 0 (MQ below (QG D cy ad A L (some (.int r')) st') args s 0 0 A) 24 [(0, .ref (ad 0)), (3, .int v3), (4, .int v4)] [] st := by
  intro n
  induction n with
  | zero => intro v3 v4 h; cases h
  | succ n ih =>
    intro v3 v4 h
    change lpB_X7_set_24 st (lp_X7_set_24 st n) v3 v4 = some _ at h
    unfold lpB_X7_set_24 at h
    refine g_iload C dX7_set_24 2 rfl ?_
    refine g_bipush (v := (7 : Int32)) C dX7_set_26 (by decide) ?_
    refine g_icmp_ge (tgt := 53) C dX7_set_28 (by decide) h ?_ ?_
    · clear h; intro hc28 h
      refine g_iload_n C dX7_set_53 rfl 1 rfl ?_
      exact g_iret C hr hlk dX7_set_54 h
    · clear h; intro hc28 h
      refine g_aload_n C dX7_set_31 rfl 0 rfl ?_
      refine g_getR (k2 := 1) C ok7 dX7_set_32 (hL 0 rfl) rfl 0 (by decide) lk_X7_12 rfl rfl ?_
      refine g_getR (k2 := 6) C ok5 dX7_set_35 (hL 1 rfl) rfl 6 (by decide) lk_X7_92 rfl rfl ?_
      refine g_iload C dX7_set_38 2 rfl ?_
      refine g_iald C dX7_set_40 (hL 6 rfl) rfl rfl h ?_
      clear h; intro h
      refine g_if_eq (tgt := 47) C dX7_set_41 (by decide) h ?_ ?_
      · clear h; intro hc41 h
        refine g_iinc (lv' := fun y => [(4, .int y), (0, .ref (ad 0)), (3, .int v3)]) C dX7_set_47 2 rfl rfl (by decide) (fun y => rfl) h ?_
        clear h; intro v25 h
        refine g_goto (tgt := 24) C dX7_set_50 (by decide) ?_
        refine g_sub (lv2 := [(0, .ref (ad 0)), (3, .int v3), (4, .int v25)]) [1, 2, 0] rfl ?_
        exact ih _ _ h
      · clear h; intro hc41 h
        refine g_iinc (lv' := fun y => [(3, .int y), (0, .ref (ad 0)), (4, .int v4)]) C dX7_set_44 1 rfl rfl (by decide) (fun y => rfl) h ?_
        clear h; intro v26 h
        refine g_iinc (lv' := fun y => [(4, .int y), (3, .int v26), (0, .ref (ad 0))]) C dX7_set_47 2 rfl rfl (by decide) (fun y => rfl) h ?_
        clear h; intro v27 h
        refine g_goto (tgt := 24) C dX7_set_50 (by decide) ?_
        refine g_sub (lv2 := [(0, .ref (ad 0)), (3, .int v26), (4, .int v27)]) [2, 1, 0] rfl ?_
        exact ih _ _ h
set_option maxHeartbeats 4000000 in
set_option maxRecDepth 100000 in
theorem ct_X7_set {N : Nat} (hL : ∀ k, prF k = true → k ∈ L) {v1 : Int32} {v2 : Int32} {st st' : St} {r' : Int32} (h : F_X7_set N v1 v2 st = some (r', st')) : Ct l D cy ad A L yX7_set cX7_set 5 (some .int) 2 [.ref (ad 0), .int v1, .int v2] st (some (.int r')) st' := by
  unfold F_X7_set at h
  refine ct_of (own := RX7) (by decide) rfl (Nat.le_of_ble_eq_true rfl) ?_
  intro p e s m args below meth c C hr hlk
  refine g_sub (lv2 := [(0, .ref (ad 0)), (1, .int v1), (2, .int v2)]) [0, 1, 2] rfl ?_
  refine g_iload_n C dX7_set_0 rfl 1 rfl ?_
  replace h := bs_some h
  obtain ⟨r21, h1, h⟩ := h
  refine g_cS (As := [.int v1]) (rest := []) (stk2 := [.int r21]) C mf_X7_isVariable lk_X7_54 sm_X7_isVariable dX7_set_1 rfl rfl rfl ⟨Nat.le_of_ble_eq_true rfl, Nat.le_of_ble_eq_true rfl⟩ (Nat.le_of_ble_eq_true rfl) ⟨Nat.le_refl 0, Nat.le_refl 0⟩ (ct_X7_isVariable hL h1) ?_
  refine g_if_ne (tgt := 9) C dX7_set_4 (by decide) h ?_ ?_
  · clear h; intro hc4 h
    refine g_aload_n C dX7_set_9 rfl 0 rfl ?_
    refine g_getR (k2 := 1) C ok7 dX7_set_10 (hL 0 rfl) rfl 0 (by decide) lk_X7_12 rfl rfl ?_
    refine g_getR (k2 := 6) C ok5 dX7_set_13 (hL 1 rfl) rfl 6 (by decide) lk_X7_92 rfl rfl ?_
    refine g_iload_n C dX7_set_16 rfl 1 rfl ?_
    refine g_iload_n C dX7_set_17 rfl 2 rfl ?_
    refine g_iast C dX7_set_18 (hL 6 rfl) rfl rfl h ?_
    clear h; intro s22 h
    refine g_iconst (v := (0 : Int32)) C dX7_set_19 (by decide) ?_
    refine g_istore_n (lv' := fun y => [(3, .int y), (0, .ref (ad 0)), (1, .int v1), (2, .int v2)]) C dX7_set_20 rfl (by decide) (fun y => rfl) h ?_
    clear h; intro v23 h
    refine g_iconst (v := (0 : Int32)) C dX7_set_21 (by decide) ?_
    refine g_istore (lv' := fun y => [(4, .int y), (3, .int v23), (0, .ref (ad 0)), (1, .int v1), (2, .int v2)]) C dX7_set_22 (by decide) (fun y => rfl) h ?_
    clear h; intro v24 h
    refine g_sub (lv2 := [(0, .ref (ad 0)), (3, .int v23), (4, .int v24)]) [2, 1, 0] rfl ?_
    refine wlp_X7_set_24 (N := N) C hr hlk hL  _ _ _ h
  · clear h; intro hc4 h
    refine g_iconst (v := (-1 : Int32)) C dX7_set_7 (by decide) ?_
    exact g_iret C hr hlk dX7_set_8 h
-- X7_value
def F_X7_value (v1 : Int32) (st : St) : Option (Int64) :=
  bs (F_X7_isVariable v1) (fun (r21 : Int32) => (if r21 = 0 then some (-10000000001 : Int64) else ck (inb v1 7) (some ((st 6 v1.toNatClampNeg).toInt64))))
set_option maxHeartbeats 4000000 in
set_option maxRecDepth 100000 in
theorem ct_X7_value (hL : ∀ k, prF k = true → k ∈ L) {v1 : Int32} {st : St} {r' : Int64} (h : F_X7_value v1 st = some r') : Ct l D cy ad A L yX7_value cX7_value 2 (some .long) 2 [.ref (ad 0), .int v1] st (some (.long r')) st := by
  unfold F_X7_value at h
  refine ct_of (own := RX7) (by decide) rfl (Nat.le_of_ble_eq_true rfl) ?_
  intro p e s m args below meth c C hr hlk
  refine g_sub (lv2 := [(0, .ref (ad 0)), (1, .int v1)]) [0, 1] rfl ?_
  refine g_iload_n C dX7_value_0 rfl 1 rfl ?_
  replace h := bs_some h
  obtain ⟨r21, h1, h⟩ := h
  refine g_cS (As := [.int v1]) (rest := []) (stk2 := [.int r21]) C mf_X7_isVariable lk_X7_54 sm_X7_isVariable dX7_value_1 rfl rfl rfl ⟨Nat.le_of_ble_eq_true rfl, Nat.le_of_ble_eq_true rfl⟩ (Nat.le_of_ble_eq_true rfl) ⟨Nat.le_refl 0, Nat.le_refl 0⟩ (ct_X7_isVariable hL h1) ?_
  refine g_if_eq (tgt := 20) C dX7_value_4 (by decide) h ?_ ?_
  · clear h; intro hc4 h
    refine g_ldc2 C kc_X7_95 dX7_value_20 ?_
    exact g_lretP C hr hlk dX7_value_23 h
  · clear h; intro hc4 h
    refine g_aload_n C dX7_value_7 rfl 0 rfl ?_
    refine g_getR (k2 := 1) C ok7 dX7_value_8 (hL 0 rfl) rfl 0 (by decide) lk_X7_12 rfl rfl ?_
    refine g_getR (k2 := 6) C ok5 dX7_value_11 (hL 1 rfl) rfl 6 (by decide) lk_X7_92 rfl rfl ?_
    refine g_iload_n C dX7_value_14 rfl 1 rfl ?_
    refine g_iald C dX7_value_15 (hL 6 rfl) rfl rfl h ?_
    clear h; intro h
    refine g_i2l C dX7_value_16 ?_
    refine g_goto (tgt := 23) C dX7_value_17 (by decide) ?_
    exact g_lretP C hr hlk dX7_value_23 h
-- X4_add
def F_X4_add (v1 : Int32) (st : St) : Option (St) :=
  ck (inb (st 23 1) 30) (lt (up st 24 (st 23 1).toNatClampNeg v1) (fun (s21 : St) => lt (up s21 23 1 ((s21 23 1) + (1 : Int32))) (fun (s22 : St) => some s22)))
set_option maxHeartbeats 4000000 in
set_option maxRecDepth 100000 in
theorem ct_X4_add (hL : ∀ k, prF k = true → k ∈ L) {v1 : Int32} {st st' : St} (h : F_X4_add v1 st = some st') : Ct l D cy ad A L yX4_add cX4_add 2 none 1 [.ref (ad 23), .int v1] st none st' := by
  unfold F_X4_add at h
  refine ct_of (own := RX4) (by decide) rfl (Nat.le_of_ble_eq_true rfl) ?_
  intro p e s m args below meth c C hr hlk
  refine g_sub (lv2 := [(0, .ref (ad 23)), (1, .int v1)]) [0, 1] rfl ?_
  refine g_aload_n C dX4_add_0 rfl 0 rfl ?_
  refine g_getR (k2 := 24) C ok4 dX4_add_1 (hL 23 rfl) rfl 0 (by decide) lk_X4_9 rfl rfl ?_
  refine g_aload_n C dX4_add_4 rfl 0 rfl ?_
  refine g_getI C ok4 dX4_add_5 (hL 23 rfl) rfl 1 (by decide) lk_X4_15 rfl ?_
  refine g_iload_n C dX4_add_8 rfl 1 rfl ?_
  refine g_iast C dX4_add_9 (hL 24 rfl) rfl rfl h ?_
  clear h; intro s21 h
  refine g_aload_n C dX4_add_10 rfl 0 rfl ?_
  refine g_dup C dX4_add_11 rfl ?_
  refine g_getI C ok4 dX4_add_12 (hL 23 rfl) rfl 1 (by decide) lk_X4_15 rfl ?_
  refine g_iconst (v := (1 : Int32)) C dX4_add_15 (by decide) ?_
  refine g_iadd C dX4_add_16 ?_
  refine g_put (ty := .int) C ok4 dX4_add_17 (hL 23 rfl) rfl 1 (by decide) lk_X4_15 rfl (tyX4_ok 1 (by decide)) rfl rfl rfl h ?_
  clear h; intro s22 h
  exact g_vret C hr hlk dX4_add_20 h
-- X4_look
def lpB_X4_look_7 (v2 : Int32) (self : Int32 → St → Option (St)) (v3 : Int32) (st : St) : Option (St) :=
  (if (st 1 0) ≤ v3 then some st else lt (fun (x23 : Int32) => lt x23 (fun (v25 : Int32) => lt (fun (x26 : Int32) => bs (F_X4_add x26 st) (fun (s28 : St) => ck (inb v3 10) (lt (fun (s29 : St) => ck (inb v3 10) (bs (F_X4_add (s29 3 v3.toNatClampNeg) s29) (fun (s31 : St) => lt (v3 + (1 : Int32)) (fun (v32 : Int32) => self v32 s31)))) (fun (j30 : St → Option (St)) => (if (s28 2 v3.toNatClampNeg) = 0 then j30 s28 else lt (fun (x33 : Int32) => bs (F_X4_add x33 s28) (fun (s35 : St) => j30 s35)) (fun (j34 : Int32 → Option (St)) => (if v25 = 0 then ck (inb v3 10) (j34 (s28 5 v3.toNatClampNeg)) else ck (inb v3 10) (j34 (s28 4 v3.toNatClampNeg))))))))) (fun (j27 : Int32 → Option (St)) => (if v25 = 0 then ck (inb v3 10) (j27 (st 4 v3.toNatClampNeg)) else ck (inb v3 10) (j27 (st 5 v3.toNatClampNeg)))))) (fun (j24 : Int32 → Option (St)) => (if ((v2 >>> (v3 &&& 31)) &&& (1 : Int32)) = 0 then j24 (0 : Int32) else j24 (1 : Int32))))
def lp_X4_look_7 (v2 : Int32) : Nat → Int32 → St → Option (St) := itf (lpB_X4_look_7 v2) (fun _ _ => none)
def F_X4_look (N : Nat) (v2 : Int32) (st : St) : Option (St) :=
  lt (up st 23 1 (0 : Int32)) (fun (s21 : St) => lt (0 : Int32) (fun (v22 : Int32) => lp_X4_look_7 v2  N v22 s21))
set_option maxHeartbeats 4000000 in
set_option maxRecDepth 100000 in
theorem wlp_X4_look_7 (C : Cx p s m args c cX4_look RX4 5 D cy ad A L) (hr : meth.sig.returnType = none) (hlk : meth.locks = false) (hL : ∀ k, prF k = true → k ∈ L) {N : Nat} {v2 : Int32} {st' : St} : ∀ (n : Nat) (v3 : Int32) (st : St), lp_X4_look_7 v2 n v3 st = some st' → Gm p l e (rmD 2) s m args below meth c D cy ad A L 5 0 0 (MQ below (QG D cy ad A L none st') args s 0 0 A) 7 [(0, .ref (ad 23)), (1, .ref (ad 1)), (2, .int v2), (3, .int v3)] [] st := by
  intro n
  induction n with
  | zero => intro v3 st h; cases h
  | succ n ih =>
    intro v3 st h
    change lpB_X4_look_7 v2 (lp_X4_look_7 v2 n) v3 st = some _ at h
    unfold lpB_X4_look_7 at h
    refine g_iload_n C dX4_look_7 rfl 3 rfl ?_
    refine g_aload_n C dX4_look_8 rfl 1 rfl ?_
    refine g_getI C ok5 dX4_look_9 (hL 1 rfl) rfl 0 (by decide) lk_X4_19 rfl ?_
    refine g_icmp_ge (tgt := 103) C dX4_look_12 (by decide) h ?_ ?_
    · clear h; intro hc12 h
      exact g_vret C hr hlk dX4_look_103 h
    · clear h; intro hc12 h
      refine g_iload_n C dX4_look_15 rfl 2 rfl ?_
      refine g_iload_n C dX4_look_16 rfl 3 rfl ?_
      refine g_ishr C dX4_look_17 ?_
      refine g_iconst (v := (1 : Int32)) C dX4_look_18 (by decide) ?_
      refine g_iand C dX4_look_19 ?_
      replace h := lt_ex h
      obtain ⟨j24, ej24, h⟩ := h
      have hj24 : ∀ (x23 : Int32), j24 x23 = some st' → Gm p l e (rmD 2) s m args below meth c D cy ad A L 5 0 0 (MQ below (QG D cy ad A L none st') args s 0 0 A) 28 [(0, .ref (ad 23)), (1, .ref (ad 1)), (2, .int v2), (3, .int v3)] [.int x23] st := by
        intro x23 h
        rw [ej24] at h
        dsimp only at h
        refine g_istore (lv' := fun y => [(4, .int y), (0, .ref (ad 23)), (1, .ref (ad 1)), (2, .int v2), (3, .int v3)]) C dX4_look_28 (by decide) (fun y => rfl) h ?_
        clear h; intro v25 h
        refine g_aload_n C dX4_look_30 rfl 1 rfl ?_
        refine g_iload C dX4_look_31 0 rfl ?_
        replace h := lt_ex h
        obtain ⟨j27, ej27, h⟩ := h
        have hj27 : ∀ (x26 : Int32), j27 x26 = some st' → Gm p l e (rmD 2) s m args below meth c D cy ad A L 5 0 0 (MQ below (QG D cy ad A L none st') args s 0 0 A) 51 [(0, .ref (ad 23)), (1, .ref (ad 1)), (2, .int v2), (3, .int v3), (4, .int v25)] [.int x26, .ref (ad 23)] st := by
          intro x26 h
          rw [ej27] at h
          dsimp only at h
          replace h := bs_some h
          obtain ⟨s28, h1, h⟩ := h
          refine g_cV (As := [.int x26]) (rest := []) (stk2 := []) C mf_X4_add ok4 rfl lk_X4_30 in_X4_add se_X4_add dX4_look_51 (hL 23 rfl) rfl rfl rfl rfl ⟨Nat.le_of_ble_eq_true rfl, Nat.le_of_ble_eq_true rfl⟩ (Nat.le_of_ble_eq_true rfl) ⟨Nat.le_refl 0, Nat.le_refl 0⟩ (ct_X4_add hL h1) ?_
          refine g_aload_n C dX4_look_54 rfl 1 rfl ?_
          refine g_getR (k2 := 2) C ok5 dX4_look_55 (hL 1 rfl) rfl 1 (by decide) lk_X4_34 rfl rfl ?_
          refine g_iload_n C dX4_look_58 rfl 3 rfl ?_
          refine g_iald C dX4_look_59 (hL 2 rfl) rfl rfl h ?_
          clear h; intro h
          replace h := lt_ex h
          obtain ⟨j30, ej30, h⟩ := h
          have hj30 : ∀ (s29 : St), j30 s29 = some st' → Gm p l e (rmD 2) s m args below meth c D cy ad A L 5 0 0 (MQ below (QG D cy ad A L none st') args s 0 0 A) 87 [(0, .ref (ad 23)), (1, .ref (ad 1)), (2, .int v2), (3, .int v3)] [] s29 := by
            intro s29 h
            rw [ej30] at h
            dsimp only at h
            refine g_aload_n C dX4_look_87 rfl 0 rfl ?_
            refine g_aload_n C dX4_look_88 rfl 1 rfl ?_
            refine g_getR (k2 := 3) C ok5 dX4_look_89 (hL 1 rfl) rfl 2 (by decide) lk_X4_37 rfl rfl ?_
            refine g_iload_n C dX4_look_92 rfl 3 rfl ?_
            refine g_iald C dX4_look_93 (hL 3 rfl) rfl rfl h ?_
            clear h; intro h
            replace h := bs_some h
            obtain ⟨s31, h1, h⟩ := h
            refine g_cV (As := [.int (s29 3 v3.toNatClampNeg)]) (rest := []) (stk2 := []) C mf_X4_add ok4 rfl lk_X4_30 in_X4_add se_X4_add dX4_look_94 (hL 23 rfl) rfl rfl rfl rfl ⟨Nat.le_of_ble_eq_true rfl, Nat.le_of_ble_eq_true rfl⟩ (Nat.le_of_ble_eq_true rfl) ⟨Nat.le_refl 0, Nat.le_refl 0⟩ (ct_X4_add hL h1) ?_
            refine g_iinc (lv' := fun y => [(3, .int y), (0, .ref (ad 23)), (1, .ref (ad 1)), (2, .int v2)]) C dX4_look_97 3 rfl rfl (by decide) (fun y => rfl) h ?_
            clear h; intro v32 h
            refine g_goto (tgt := 7) C dX4_look_100 (by decide) ?_
            refine g_sub (lv2 := [(0, .ref (ad 23)), (1, .ref (ad 1)), (2, .int v2), (3, .int v32)]) [1, 2, 3, 0] rfl ?_
            exact ih _ _ h
          refine g_if_eq (tgt := 87) C dX4_look_60 (by decide) h ?_ ?_
          · clear h; intro hc60 h
            refine g_sub (lv2 := [(0, .ref (ad 23)), (1, .ref (ad 1)), (2, .int v2), (3, .int v3)]) [0, 1, 2, 3] rfl ?_
            exact hj30 _ h
          · clear h; intro hc60 h
            refine g_aload_n C dX4_look_63 rfl 0 rfl ?_
            refine g_iload C dX4_look_64 4 rfl ?_
            replace h := lt_ex h
            obtain ⟨j34, ej34, h⟩ := h
            have hj34 : ∀ (x33 : Int32), j34 x33 = some st' → Gm p l e (rmD 2) s m args below meth c D cy ad A L 5 0 0 (MQ below (QG D cy ad A L none st') args s 0 0 A) 84 [(0, .ref (ad 23)), (1, .ref (ad 1)), (2, .int v2), (3, .int v3)] [.int x33, .ref (ad 23)] s28 := by
              intro x33 h
              rw [ej34] at h
              dsimp only at h
              replace h := bs_some h
              obtain ⟨s35, h1, h⟩ := h
              refine g_cV (As := [.int x33]) (rest := []) (stk2 := []) C mf_X4_add ok4 rfl lk_X4_30 in_X4_add se_X4_add dX4_look_84 (hL 23 rfl) rfl rfl rfl rfl ⟨Nat.le_of_ble_eq_true rfl, Nat.le_of_ble_eq_true rfl⟩ (Nat.le_of_ble_eq_true rfl) ⟨Nat.le_refl 0, Nat.le_refl 0⟩ (ct_X4_add hL h1) ?_
              refine g_sub (lv2 := [(0, .ref (ad 23)), (1, .ref (ad 1)), (2, .int v2), (3, .int v3)]) [0, 1, 2, 3] rfl ?_
              exact hj30 _ h
            refine g_if_eq (tgt := 78) C dX4_look_66 (by decide) h ?_ ?_
            · clear h; intro hc66 h
              refine g_aload_n C dX4_look_78 rfl 1 rfl ?_
              refine g_getR (k2 := 5) C ok5 dX4_look_79 (hL 1 rfl) rfl 4 (by decide) lk_X4_24 rfl rfl ?_
              refine g_iload_n C dX4_look_82 rfl 3 rfl ?_
              refine g_iald C dX4_look_83 (hL 5 rfl) rfl rfl h ?_
              clear h; intro h
              refine g_sub (lv2 := [(0, .ref (ad 23)), (1, .ref (ad 1)), (2, .int v2), (3, .int v3)]) [0, 1, 2, 3] rfl ?_
              exact hj34 _ h
            · clear h; intro hc66 h
              refine g_aload_n C dX4_look_69 rfl 1 rfl ?_
              refine g_getR (k2 := 4) C ok5 dX4_look_70 (hL 1 rfl) rfl 3 (by decide) lk_X4_27 rfl rfl ?_
              refine g_iload_n C dX4_look_73 rfl 3 rfl ?_
              refine g_iald C dX4_look_74 (hL 4 rfl) rfl rfl h ?_
              clear h; intro h
              refine g_goto (tgt := 84) C dX4_look_75 (by decide) ?_
              refine g_sub (lv2 := [(0, .ref (ad 23)), (1, .ref (ad 1)), (2, .int v2), (3, .int v3)]) [0, 1, 2, 3] rfl ?_
              exact hj34 _ h
        refine g_if_eq (tgt := 45) C dX4_look_33 (by decide) h ?_ ?_
        · clear h; intro hc33 h
          refine g_aload_n C dX4_look_45 rfl 2 rfl ?_
          refine g_getR (k2 := 4) C ok5 dX4_look_46 (hL 1 rfl) rfl 3 (by decide) lk_X4_27 rfl rfl ?_
          refine g_iload_n C dX4_look_49 rfl 4 rfl ?_
          refine g_iald C dX4_look_50 (hL 4 rfl) rfl rfl h ?_
          clear h; intro h
          refine g_sub (lv2 := [(0, .ref (ad 23)), (1, .ref (ad 1)), (2, .int v2), (3, .int v3), (4, .int v25)]) [1, 2, 3, 4, 0] rfl ?_
          exact hj27 _ h
        · clear h; intro hc33 h
          refine g_aload_n C dX4_look_36 rfl 2 rfl ?_
          refine g_getR (k2 := 5) C ok5 dX4_look_37 (hL 1 rfl) rfl 4 (by decide) lk_X4_24 rfl rfl ?_
          refine g_iload_n C dX4_look_40 rfl 4 rfl ?_
          refine g_iald C dX4_look_41 (hL 5 rfl) rfl rfl h ?_
          clear h; intro h
          refine g_goto (tgt := 51) C dX4_look_42 (by decide) ?_
          refine g_sub (lv2 := [(0, .ref (ad 23)), (1, .ref (ad 1)), (2, .int v2), (3, .int v3), (4, .int v25)]) [1, 2, 3, 4, 0] rfl ?_
          exact hj27 _ h
      refine g_if_eq (tgt := 27) C dX4_look_20 (by decide) h ?_ ?_
      · clear h; intro hc20 h
        refine g_iconst (v := (0 : Int32)) C dX4_look_27 (by decide) ?_
        refine g_sub (lv2 := [(0, .ref (ad 23)), (1, .ref (ad 1)), (2, .int v2), (3, .int v3)]) [0, 1, 2, 3] rfl ?_
        exact hj24 _ h
      · clear h; intro hc20 h
        refine g_iconst (v := (1 : Int32)) C dX4_look_23 (by decide) ?_
        refine g_goto (tgt := 28) C dX4_look_24 (by decide) ?_
        refine g_sub (lv2 := [(0, .ref (ad 23)), (1, .ref (ad 1)), (2, .int v2), (3, .int v3)]) [0, 1, 2, 3] rfl ?_
        exact hj24 _ h
set_option maxHeartbeats 4000000 in
set_option maxRecDepth 100000 in
theorem ct_X4_look {N : Nat} (hL : ∀ k, prF k = true → k ∈ L) {v2 : Int32} {st st' : St} (h : F_X4_look N v2 st = some st') : Ct l D cy ad A L yX4_look cX4_look 5 none 2 [.ref (ad 23), .ref (ad 1), .int v2] st none st' := by
  unfold F_X4_look at h
  refine ct_of (own := RX4) (by decide) rfl (Nat.le_of_ble_eq_true rfl) ?_
  intro p e s m args below meth c C hr hlk
  refine g_sub (lv2 := [(0, .ref (ad 23)), (1, .ref (ad 1)), (2, .int v2)]) [0, 1, 2] rfl ?_
  refine g_aload_n C dX4_look_0 rfl 0 rfl ?_
  refine g_iconst (v := (0 : Int32)) C dX4_look_1 (by decide) ?_
  refine g_put (ty := .int) C ok4 dX4_look_2 (hL 23 rfl) rfl 1 (by decide) lk_X4_15 rfl (tyX4_ok 1 (by decide)) rfl rfl rfl h ?_
  clear h; intro s21 h
  refine g_iconst (v := (0 : Int32)) C dX4_look_5 (by decide) ?_
  refine g_istore_n (lv' := fun y => [(3, .int y), (0, .ref (ad 23)), (1, .ref (ad 1)), (2, .int v2)]) C dX4_look_6 rfl (by decide) (fun y => rfl) h ?_
  clear h; intro v22 h
  refine g_sub (lv2 := [(0, .ref (ad 23)), (1, .ref (ad 1)), (2, .int v2), (3, .int v22)]) [1, 2, 3, 0] rfl ?_
  refine wlp_X4_look_7 (N := N) C hr hlk hL  _ _ _ h
-- X4_has
def F_X4_has (v1 : Int32) (st : St) : Option (Int32) :=
  lt (some (0 : Int32)) (fun (j21 : Option (Int32)) => (if v1 < 0 then j21 else (if (st 23 1) ≤ v1 then j21 else some (1 : Int32))))
set_option maxHeartbeats 4000000 in
set_option maxRecDepth 100000 in
theorem ct_X4_has (hL : ∀ k, prF k = true → k ∈ L) {v1 : Int32} {st : St} {r' : Int32} (h : F_X4_has v1 st = some r') : Ct l D cy ad A L yX4_has cX4_has 2 (some .boolean) 1 [.ref (ad 23), .int v1] st (some (.int r')) st := by
  unfold F_X4_has at h
  refine ct_of (own := RX4) (by decide) rfl (Nat.le_of_ble_eq_true rfl) ?_
  intro p e s m args below meth c C hr hlk
  refine g_sub (lv2 := [(0, .ref (ad 23)), (1, .int v1)]) [0, 1] rfl ?_
  refine g_iload_n C dX4_has_0 rfl 1 rfl ?_
  replace h := lt_ex h
  obtain ⟨j21, ej21, h⟩ := h
  have hj21 : j21 = some r' → Gm p l e (rmD 1) s m args below meth c D cy ad A L 2 0 0 (MQ below (QG D cy ad A L (some (.int r')) st) args s 0 0 A) 16 [] [] st := by
    intro h
    rw [ej21] at h
    skip
    refine g_iconst (v := (0 : Int32)) C dX4_has_16 (by decide) ?_
    exact g_zretLP C hr hlk rfl dX4_has_17 h
  refine g_if_lt (tgt := 16) C dX4_has_1 (by decide) h ?_ ?_
  · clear h; intro hc1 h
    refine g_sub (lv2 := []) [] rfl ?_
    exact hj21  h
  · clear h; intro hc1 h
    refine g_iload_n C dX4_has_4 rfl 1 rfl ?_
    refine g_aload_n C dX4_has_5 rfl 0 rfl ?_
    refine g_getI C ok4 dX4_has_6 (hL 23 rfl) rfl 1 (by decide) lk_X4_15 rfl ?_
    refine g_icmp_ge (tgt := 16) C dX4_has_9 (by decide) h ?_ ?_
    · clear h; intro hc9 h
      refine g_sub (lv2 := []) [] rfl ?_
      exact hj21  h
    · clear h; intro hc9 h
      refine g_iconst (v := (1 : Int32)) C dX4_has_12 (by decide) ?_
      refine g_goto (tgt := 17) C dX4_has_13 (by decide) ?_
      exact g_zretLP C hr hlk rfl dX4_has_17 h
-- X7_sight
def F_X7_sight (N : Nat) (v1 : Int32) (st : St) : Option (Int32 × St) :=
  bs (F_X4_look N (0 : Int32) st) (fun (s21 : St) => bs (F_X4_has v1 s21) (fun (r22 : Int32) => (if r22 = 0 then some ((-6 : Int32), s21) else ck (inb v1 30) (some ((s21 24 v1.toNatClampNeg), s21)))))
set_option maxHeartbeats 4000000 in
set_option maxRecDepth 100000 in
theorem ct_X7_sight {N : Nat} (hL : ∀ k, prF k = true → k ∈ L) {v1 : Int32} {st st' : St} {r' : Int32} (h : F_X7_sight N v1 st = some (r', st')) : Ct l D cy ad A L yX7_sight cX7_sight 2 (some .int) 3 [.ref (ad 0), .int v1] st (some (.int r')) st' := by
  unfold F_X7_sight at h
  refine ct_of (own := RX7) (by decide) rfl (Nat.le_of_ble_eq_true rfl) ?_
  intro p e s m args below meth c C hr hlk
  refine g_sub (lv2 := [(0, .ref (ad 0)), (1, .int v1)]) [0, 1] rfl ?_
  refine g_aload_n C dX7_sight_0 rfl 0 rfl ?_
  refine g_getR (k2 := 23) C ok7 dX7_sight_1 (hL 0 rfl) rfl 3 (by decide) lk_X7_23 rfl rfl ?_
  refine g_aload_n C dX7_sight_4 rfl 0 rfl ?_
  refine g_getR (k2 := 1) C ok7 dX7_sight_5 (hL 0 rfl) rfl 0 (by decide) lk_X7_12 rfl rfl ?_
  refine g_iconst (v := (0 : Int32)) C dX7_sight_8 (by decide) ?_
  replace h := bs_some h
  obtain ⟨s21, h1, h⟩ := h
  refine g_cV (As := [.ref (ad 1), .int (0 : Int32)]) (rest := []) (stk2 := []) C mf_X4_look ok4 rfl lk_X7_97 in_X4_look se_X4_look dX7_sight_9 (hL 23 rfl) rfl rfl rfl rfl ⟨Nat.le_of_ble_eq_true rfl, Nat.le_of_ble_eq_true rfl⟩ (Nat.le_of_ble_eq_true rfl) ⟨Nat.le_refl 0, Nat.le_refl 0⟩ (ct_X4_look hL h1) ?_
  refine g_aload_n C dX7_sight_12 rfl 0 rfl ?_
  refine g_getR (k2 := 23) C ok7 dX7_sight_13 (hL 0 rfl) rfl 3 (by decide) lk_X7_23 rfl rfl ?_
  refine g_iload_n C dX7_sight_16 rfl 1 rfl ?_
  replace h := bs_some h
  obtain ⟨r22, h1, h⟩ := h
  refine g_cV (As := [.int v1]) (rest := []) (stk2 := [.int r22]) C mf_X4_has ok4 rfl lk_X7_101 in_X4_has se_X4_has dX7_sight_17 (hL 23 rfl) rfl rfl rfl rfl ⟨Nat.le_of_ble_eq_true rfl, Nat.le_of_ble_eq_true rfl⟩ (Nat.le_of_ble_eq_true rfl) ⟨Nat.le_refl 0, Nat.le_refl 0⟩ (ct_X4_has hL h1) ?_
  refine g_if_eq (tgt := 35) C dX7_sight_20 (by decide) h ?_ ?_
  · clear h; intro hc20 h
    refine g_bipush (v := (-6 : Int32)) C dX7_sight_35 (by decide) ?_
    exact g_iret C hr hlk dX7_sight_37 h
  · clear h; intro hc20 h
    refine g_aload_n C dX7_sight_23 rfl 0 rfl ?_
    refine g_getR (k2 := 23) C ok7 dX7_sight_24 (hL 0 rfl) rfl 3 (by decide) lk_X7_23 rfl rfl ?_
    refine g_getR (k2 := 24) C ok4 dX7_sight_27 (hL 23 rfl) rfl 0 (by decide) lk_X7_102 rfl rfl ?_
    refine g_iload_n C dX7_sight_30 rfl 1 rfl ?_
    refine g_iald C dX7_sight_31 (hL 24 rfl) rfl rfl h ?_
    clear h; intro h
    refine g_goto (tgt := 37) C dX7_sight_32 (by decide) ?_
    exact g_iret C hr hlk dX7_sight_37 h
-- X7_isMode
def F_X7_isMode (v0 : Int32) : Option (Int32) :=
  lt (some (0 : Int32)) (fun (j21 : Option (Int32)) => (if v0 < 0 then j21 else (if (2 : Int32) ≤ v0 then j21 else some (1 : Int32))))
set_option maxHeartbeats 4000000 in
set_option maxRecDepth 100000 in
theorem ct_X7_isMode (hL : ∀ k, prF k = true → k ∈ L) {v0 : Int32} {st : St} {r' : Int32} (h : F_X7_isMode v0 = some r') : Ct l D cy ad A L yX7_isMode cX7_isMode 1 (some .boolean) 1 [.int v0] st (some (.int r')) st := by
  unfold F_X7_isMode at h
  refine ct_of (own := RX7) (by decide) rfl (Nat.le_of_ble_eq_true rfl) ?_
  intro p e s m args below meth c C hr hlk
  refine g_sub (lv2 := [(0, .int v0)]) [0] rfl ?_
  refine g_iload_n C dX7_isMode_0 rfl 0 rfl ?_
  replace h := lt_ex h
  obtain ⟨j21, ej21, h⟩ := h
  have hj21 : j21 = some r' → Gm p l e (rmD 1) s m args below meth c D cy ad A L 1 0 0 (MQ below (QG D cy ad A L (some (.int r')) st) args s 0 0 A) 13 [] [] st := by
    intro h
    rw [ej21] at h
    skip
    refine g_iconst (v := (0 : Int32)) C dX7_isMode_13 (by decide) ?_
    exact g_zretLP C hr hlk rfl dX7_isMode_14 h
  refine g_if_lt (tgt := 13) C dX7_isMode_1 (by decide) h ?_ ?_
  · clear h; intro hc1 h
    refine g_sub (lv2 := []) [] rfl ?_
    exact hj21  h
  · clear h; intro hc1 h
    refine g_iload_n C dX7_isMode_4 rfl 0 rfl ?_
    refine g_iconst (v := (2 : Int32)) C dX7_isMode_5 (by decide) ?_
    refine g_icmp_ge (tgt := 13) C dX7_isMode_6 (by decide) h ?_ ?_
    · clear h; intro hc6 h
      refine g_sub (lv2 := []) [] rfl ?_
      exact hj21  h
    · clear h; intro hc6 h
      refine g_iconst (v := (1 : Int32)) C dX7_isMode_9 (by decide) ?_
      refine g_goto (tgt := 14) C dX7_isMode_10 (by decide) ?_
      exact g_zretLP C hr hlk rfl dX7_isMode_14 h
-- X7_isPlan
def F_X7_isPlan (v0 : Int32) (v1 : Int32) : Option (Int32) :=
  lt (some (0 : Int32)) (fun (j21 : Option (Int32)) => (if v0 < (1 : Int32) then j21 else (if (3 : Int32) < v0 then j21 else bs (F_X7_isMode v1) (fun (r22 : Int32) => (if r22 = 0 then j21 else some (1 : Int32))))))
set_option maxHeartbeats 4000000 in
set_option maxRecDepth 100000 in
theorem ct_X7_isPlan (hL : ∀ k, prF k = true → k ∈ L) {v0 : Int32} {v1 : Int32} {st : St} {r' : Int32} (h : F_X7_isPlan v0 v1 = some r') : Ct l D cy ad A L yX7_isPlan cX7_isPlan 2 (some .boolean) 2 [.int v0, .int v1] st (some (.int r')) st := by
  unfold F_X7_isPlan at h
  refine ct_of (own := RX7) (by decide) rfl (Nat.le_of_ble_eq_true rfl) ?_
  intro p e s m args below meth c C hr hlk
  refine g_sub (lv2 := [(0, .int v0), (1, .int v1)]) [0, 1] rfl ?_
  refine g_iload_n C dX7_isPlan_0 rfl 0 rfl ?_
  refine g_iconst (v := (1 : Int32)) C dX7_isPlan_1 (by decide) ?_
  replace h := lt_ex h
  obtain ⟨j21, ej21, h⟩ := h
  have hj21 : j21 = some r' → Gm p l e (rmD 2) s m args below meth c D cy ad A L 2 0 0 (MQ below (QG D cy ad A L (some (.int r')) st) args s 0 0 A) 21 [] [] st := by
    intro h
    rw [ej21] at h
    skip
    refine g_iconst (v := (0 : Int32)) C dX7_isPlan_21 (by decide) ?_
    exact g_zretLP C hr hlk rfl dX7_isPlan_22 h
  refine g_icmp_lt (tgt := 21) C dX7_isPlan_2 (by decide) h ?_ ?_
  · clear h; intro hc2 h
    refine g_sub (lv2 := []) [] rfl ?_
    exact hj21  h
  · clear h; intro hc2 h
    refine g_iload_n C dX7_isPlan_5 rfl 0 rfl ?_
    refine g_iconst (v := (3 : Int32)) C dX7_isPlan_6 (by decide) ?_
    refine g_icmp_gt (tgt := 21) C dX7_isPlan_7 (by decide) h ?_ ?_
    · clear h; intro hc7 h
      refine g_sub (lv2 := []) [] rfl ?_
      exact hj21  h
    · clear h; intro hc7 h
      refine g_iload_n C dX7_isPlan_10 rfl 1 rfl ?_
      replace h := bs_some h
      obtain ⟨r22, h1, h⟩ := h
      refine g_cS (As := [.int v1]) (rest := []) (stk2 := [.int r22]) C mf_X7_isMode lk_X7_157 sm_X7_isMode dX7_isPlan_11 rfl rfl rfl ⟨Nat.le_of_ble_eq_true rfl, Nat.le_of_ble_eq_true rfl⟩ (Nat.le_of_ble_eq_true rfl) ⟨Nat.le_refl 0, Nat.le_refl 0⟩ (ct_X7_isMode hL h1) ?_
      refine g_if_eq (tgt := 21) C dX7_isPlan_14 (by decide) h ?_ ?_
      · clear h; intro hc14 h
        refine g_sub (lv2 := []) [] rfl ?_
        exact hj21  h
      · clear h; intro hc14 h
        refine g_iconst (v := (1 : Int32)) C dX7_isPlan_17 (by decide) ?_
        refine g_goto (tgt := 22) C dX7_isPlan_18 (by decide) ?_
        exact g_zretLP C hr hlk rfl dX7_isPlan_22 h
-- X5_turnable
def lpB_X5_turnable_4 (st : St) (self : Int32 → Int32 → Option (Int32)) (v1 : Int32) (v2 : Int32) : Option (Int32) :=
  (if (st 1 0) ≤ v2 then some v1 else ck (inb v2 10) ((if (st 2 v2.toNatClampNeg) = 0 then lt (v2 + (1 : Int32)) (fun (v23 : Int32) => self v1 v23) else ck (inb v2 10) ((if (st 2 v2.toNatClampNeg) = (2 : Int32) then lt (v2 + (1 : Int32)) (fun (v24 : Int32) => self v1 v24) else ck (inb v2 10) (ck (inb v2 10) ((if (st 4 v2.toNatClampNeg) = (st 5 v2.toNatClampNeg) then lt (v2 + (1 : Int32)) (fun (v25 : Int32) => self v1 v25) else lt (v1 ||| ((1 : Int32) <<< (v2 &&& 31))) (fun (v26 : Int32) => lt (v2 + (1 : Int32)) (fun (v27 : Int32) => self v26 v27))))))))))
def lp_X5_turnable_4 (st : St) : Nat → Int32 → Int32 → Option (Int32) := itf (lpB_X5_turnable_4 st) (fun _ _ => none)
def F_X5_turnable (N : Nat) (st : St) : Option (Int32) :=
  lt (0 : Int32) (fun (v21 : Int32) => lt (0 : Int32) (fun (v22 : Int32) => lp_X5_turnable_4 st  N v21 v22))
set_option maxHeartbeats 4000000 in
set_option maxRecDepth 100000 in
theorem wlp_X5_turnable_4 (C : Cx p s m args c cX5_turnable RX5 3 D cy ad A L) (hr : meth.sig.returnType = (some .int)) (hlk : meth.locks = false) (hL : ∀ k, prF k = true → k ∈ L) {N : Nat} {r' : Int32}  {st : St} : ∀ (n : Nat) (v1 : Int32) (v2 : Int32), lp_X5_turnable_4 st n v1 v2 = some r' → Gm p l e (rmD 1) s m args below meth c D cy ad A L 3 0 0 (MQ below (QG D cy ad A L (some (.int r')) st) args s 0 0 A) 4 [(0, .ref (ad 1)), (1, .int v1), (2, .int v2)] [] st := by
  intro n
  induction n with
  | zero => intro v1 v2 h; cases h
  | succ n ih =>
    intro v1 v2 h
    change lpB_X5_turnable_4 st (lp_X5_turnable_4 st n) v1 v2 = some _ at h
    unfold lpB_X5_turnable_4 at h
    refine g_iload_n C dX5_turnable_4 rfl 2 rfl ?_
    refine g_aload_n C dX5_turnable_5 rfl 0 rfl ?_
    refine g_getI C ok5 dX5_turnable_6 (hL 1 rfl) rfl 0 (by decide) lk_X5_34 rfl ?_
    refine g_icmp_ge (tgt := 58) C dX5_turnable_9 (by decide) h ?_ ?_
    · clear h; intro hc9 h
      refine g_iload_n C dX5_turnable_58 rfl 1 rfl ?_
      exact g_iretP C hr hlk dX5_turnable_59 h
    · clear h; intro hc9 h
      refine g_aload_n C dX5_turnable_12 rfl 0 rfl ?_
      refine g_getR (k2 := 2) C ok5 dX5_turnable_13 (hL 1 rfl) rfl 1 (by decide) lk_X5_9 rfl rfl ?_
      refine g_iload_n C dX5_turnable_16 rfl 2 rfl ?_
      refine g_iald C dX5_turnable_17 (hL 2 rfl) rfl rfl h ?_
      clear h; intro h
      refine g_if_eq (tgt := 52) C dX5_turnable_18 (by decide) h ?_ ?_
      · clear h; intro hc18 h
        refine g_iinc (lv' := fun y => [(2, .int y), (0, .ref (ad 1)), (1, .int v1)]) C dX5_turnable_52 2 rfl rfl (by decide) (fun y => rfl) h ?_
        clear h; intro v23 h
        refine g_goto (tgt := 4) C dX5_turnable_55 (by decide) ?_
        refine g_sub (lv2 := [(0, .ref (ad 1)), (1, .int v1), (2, .int v23)]) [1, 2, 0] rfl ?_
        exact ih _ _ h
      · clear h; intro hc18 h
        refine g_aload_n C dX5_turnable_21 rfl 0 rfl ?_
        refine g_getR (k2 := 2) C ok5 dX5_turnable_22 (hL 1 rfl) rfl 1 (by decide) lk_X5_9 rfl rfl ?_
        refine g_iload_n C dX5_turnable_25 rfl 2 rfl ?_
        refine g_iald C dX5_turnable_26 (hL 2 rfl) rfl rfl h ?_
        clear h; intro h
        refine g_iconst (v := (2 : Int32)) C dX5_turnable_27 (by decide) ?_
        refine g_icmp_eq (tgt := 52) C dX5_turnable_28 (by decide) h ?_ ?_
        · clear h; intro hc28 h
          refine g_iinc (lv' := fun y => [(2, .int y), (0, .ref (ad 1)), (1, .int v1)]) C dX5_turnable_52 2 rfl rfl (by decide) (fun y => rfl) h ?_
          clear h; intro v24 h
          refine g_goto (tgt := 4) C dX5_turnable_55 (by decide) ?_
          refine g_sub (lv2 := [(0, .ref (ad 1)), (1, .int v1), (2, .int v24)]) [1, 2, 0] rfl ?_
          exact ih _ _ h
        · clear h; intro hc28 h
          refine g_aload_n C dX5_turnable_31 rfl 0 rfl ?_
          refine g_getR (k2 := 4) C ok5 dX5_turnable_32 (hL 1 rfl) rfl 3 (by decide) lk_X5_18 rfl rfl ?_
          refine g_iload_n C dX5_turnable_35 rfl 2 rfl ?_
          refine g_iald C dX5_turnable_36 (hL 4 rfl) rfl rfl h ?_
          clear h; intro h
          refine g_aload_n C dX5_turnable_37 rfl 0 rfl ?_
          refine g_getR (k2 := 5) C ok5 dX5_turnable_38 (hL 1 rfl) rfl 4 (by decide) lk_X5_21 rfl rfl ?_
          refine g_iload_n C dX5_turnable_41 rfl 2 rfl ?_
          refine g_iald C dX5_turnable_42 (hL 5 rfl) rfl rfl h ?_
          clear h; intro h
          refine g_icmp_eq (tgt := 52) C dX5_turnable_43 (by decide) h ?_ ?_
          · clear h; intro hc43 h
            refine g_iinc (lv' := fun y => [(2, .int y), (0, .ref (ad 1)), (1, .int v1)]) C dX5_turnable_52 2 rfl rfl (by decide) (fun y => rfl) h ?_
            clear h; intro v25 h
            refine g_goto (tgt := 4) C dX5_turnable_55 (by decide) ?_
            refine g_sub (lv2 := [(0, .ref (ad 1)), (1, .int v1), (2, .int v25)]) [1, 2, 0] rfl ?_
            exact ih _ _ h
          · clear h; intro hc43 h
            refine g_iload_n C dX5_turnable_46 rfl 1 rfl ?_
            refine g_iconst (v := (1 : Int32)) C dX5_turnable_47 (by decide) ?_
            refine g_iload_n C dX5_turnable_48 rfl 2 rfl ?_
            refine g_ishl C dX5_turnable_49 ?_
            refine g_ior C dX5_turnable_50 ?_
            refine g_istore_n (lv' := fun y => [(1, .int y), (0, .ref (ad 1)), (2, .int v2)]) C dX5_turnable_51 rfl (by decide) (fun y => rfl) h ?_
            clear h; intro v26 h
            refine g_iinc (lv' := fun y => [(2, .int y), (1, .int v26), (0, .ref (ad 1))]) C dX5_turnable_52 2 rfl rfl (by decide) (fun y => rfl) h ?_
            clear h; intro v27 h
            refine g_goto (tgt := 4) C dX5_turnable_55 (by decide) ?_
            refine g_sub (lv2 := [(0, .ref (ad 1)), (1, .int v26), (2, .int v27)]) [2, 1, 0] rfl ?_
            exact ih _ _ h
set_option maxHeartbeats 4000000 in
set_option maxRecDepth 100000 in
theorem ct_X5_turnable {N : Nat} (hL : ∀ k, prF k = true → k ∈ L) {st : St} {r' : Int32} (h : F_X5_turnable N st = some r') : Ct l D cy ad A L yX5_turnable cX5_turnable 3 (some .int) 1 [.ref (ad 1)] st (some (.int r')) st := by
  unfold F_X5_turnable at h
  refine ct_of (own := RX5) (by decide) rfl (Nat.le_of_ble_eq_true rfl) ?_
  intro p e s m args below meth c C hr hlk
  refine g_sub (lv2 := [(0, .ref (ad 1))]) [0] rfl ?_
  refine g_iconst (v := (0 : Int32)) C dX5_turnable_0 (by decide) ?_
  refine g_istore_n (lv' := fun y => [(1, .int y), (0, .ref (ad 1))]) C dX5_turnable_1 rfl (by decide) (fun y => rfl) h ?_
  clear h; intro v21 h
  refine g_iconst (v := (0 : Int32)) C dX5_turnable_2 (by decide) ?_
  refine g_istore_n (lv' := fun y => [(2, .int y), (1, .int v21), (0, .ref (ad 1))]) C dX5_turnable_3 rfl (by decide) (fun y => rfl) h ?_
  clear h; intro v22 h
  refine g_sub (lv2 := [(0, .ref (ad 1)), (1, .int v21), (2, .int v22)]) [2, 1, 0] rfl ?_
  refine wlp_X5_turnable_4 (N := N) C hr hlk hL  _ _ _ h
-- X5_usedSet
def lpB_X5_usedSet_4 (st : St) (self : Int32 → Int32 → Option (Int32)) (v1 : Int32) (v2 : Int32) : Option (Int32) :=
  (if (st 1 0) ≤ v2 then some v1 else ck (inb v2 10) (ck (inb v2 10) (ck (inb v2 10) (lt (v1 ||| ((((1 : Int32) <<< ((st 3 v2.toNatClampNeg) &&& 31)) ||| ((1 : Int32) <<< ((st 4 v2.toNatClampNeg) &&& 31))) ||| ((1 : Int32) <<< ((st 5 v2.toNatClampNeg) &&& 31)))) (fun (v23 : Int32) => lt (v2 + (1 : Int32)) (fun (v24 : Int32) => self v23 v24))))))
def lp_X5_usedSet_4 (st : St) : Nat → Int32 → Int32 → Option (Int32) := itf (lpB_X5_usedSet_4 st) (fun _ _ => none)
def F_X5_usedSet (N : Nat) (st : St) : Option (Int32) :=
  lt (0 : Int32) (fun (v21 : Int32) => lt (0 : Int32) (fun (v22 : Int32) => lp_X5_usedSet_4 st  N v21 v22))
set_option maxHeartbeats 4000000 in
set_option maxRecDepth 100000 in
theorem wlp_X5_usedSet_4 (C : Cx p s m args c cX5_usedSet RX5 3 D cy ad A L) (hr : meth.sig.returnType = (some .int)) (hlk : meth.locks = false) (hL : ∀ k, prF k = true → k ∈ L) {N : Nat} {r' : Int32}  {st : St} : ∀ (n : Nat) (v1 : Int32) (v2 : Int32), lp_X5_usedSet_4 st n v1 v2 = some r' → Gm p l e (rmD 1) s m args below meth c D cy ad A L 3 0 0 (MQ below (QG D cy ad A L (some (.int r')) st) args s 0 0 A) 4 [(0, .ref (ad 1)), (1, .int v1), (2, .int v2)] [] st := by
  intro n
  induction n with
  | zero => intro v1 v2 h; cases h
  | succ n ih =>
    intro v1 v2 h
    change lpB_X5_usedSet_4 st (lp_X5_usedSet_4 st n) v1 v2 = some _ at h
    unfold lpB_X5_usedSet_4 at h
    refine g_iload_n C dX5_usedSet_4 rfl 2 rfl ?_
    refine g_aload_n C dX5_usedSet_5 rfl 0 rfl ?_
    refine g_getI C ok5 dX5_usedSet_6 (hL 1 rfl) rfl 0 (by decide) lk_X5_34 rfl ?_
    refine g_icmp_ge (tgt := 47) C dX5_usedSet_9 (by decide) h ?_ ?_
    · clear h; intro hc9 h
      refine g_iload_n C dX5_usedSet_47 rfl 1 rfl ?_
      exact g_iretP C hr hlk dX5_usedSet_48 h
    · clear h; intro hc9 h
      refine g_iload_n C dX5_usedSet_12 rfl 1 rfl ?_
      refine g_iconst (v := (1 : Int32)) C dX5_usedSet_13 (by decide) ?_
      refine g_aload_n C dX5_usedSet_14 rfl 0 rfl ?_
      refine g_getR (k2 := 3) C ok5 dX5_usedSet_15 (hL 1 rfl) rfl 2 (by decide) lk_X5_15 rfl rfl ?_
      refine g_iload_n C dX5_usedSet_18 rfl 2 rfl ?_
      refine g_iald C dX5_usedSet_19 (hL 3 rfl) rfl rfl h ?_
      clear h; intro h
      refine g_ishl C dX5_usedSet_20 ?_
      refine g_iconst (v := (1 : Int32)) C dX5_usedSet_21 (by decide) ?_
      refine g_aload_n C dX5_usedSet_22 rfl 0 rfl ?_
      refine g_getR (k2 := 4) C ok5 dX5_usedSet_23 (hL 1 rfl) rfl 3 (by decide) lk_X5_18 rfl rfl ?_
      refine g_iload_n C dX5_usedSet_26 rfl 2 rfl ?_
      refine g_iald C dX5_usedSet_27 (hL 4 rfl) rfl rfl h ?_
      clear h; intro h
      refine g_ishl C dX5_usedSet_28 ?_
      refine g_ior C dX5_usedSet_29 ?_
      refine g_iconst (v := (1 : Int32)) C dX5_usedSet_30 (by decide) ?_
      refine g_aload_n C dX5_usedSet_31 rfl 0 rfl ?_
      refine g_getR (k2 := 5) C ok5 dX5_usedSet_32 (hL 1 rfl) rfl 4 (by decide) lk_X5_21 rfl rfl ?_
      refine g_iload_n C dX5_usedSet_35 rfl 2 rfl ?_
      refine g_iald C dX5_usedSet_36 (hL 5 rfl) rfl rfl h ?_
      clear h; intro h
      refine g_ishl C dX5_usedSet_37 ?_
      refine g_ior C dX5_usedSet_38 ?_
      refine g_ior C dX5_usedSet_39 ?_
      refine g_istore_n (lv' := fun y => [(1, .int y), (0, .ref (ad 1)), (2, .int v2)]) C dX5_usedSet_40 rfl (by decide) (fun y => rfl) h ?_
      clear h; intro v23 h
      refine g_iinc (lv' := fun y => [(2, .int y), (1, .int v23), (0, .ref (ad 1))]) C dX5_usedSet_41 2 rfl rfl (by decide) (fun y => rfl) h ?_
      clear h; intro v24 h
      refine g_goto (tgt := 4) C dX5_usedSet_44 (by decide) ?_
      refine g_sub (lv2 := [(0, .ref (ad 1)), (1, .int v23), (2, .int v24)]) [2, 1, 0] rfl ?_
      exact ih _ _ h
set_option maxHeartbeats 4000000 in
set_option maxRecDepth 100000 in
theorem ct_X5_usedSet {N : Nat} (hL : ∀ k, prF k = true → k ∈ L) {st : St} {r' : Int32} (h : F_X5_usedSet N st = some r') : Ct l D cy ad A L yX5_usedSet cX5_usedSet 3 (some .int) 1 [.ref (ad 1)] st (some (.int r')) st := by
  unfold F_X5_usedSet at h
  refine ct_of (own := RX5) (by decide) rfl (Nat.le_of_ble_eq_true rfl) ?_
  intro p e s m args below meth c C hr hlk
  refine g_sub (lv2 := [(0, .ref (ad 1))]) [0] rfl ?_
  refine g_iconst (v := (0 : Int32)) C dX5_usedSet_0 (by decide) ?_
  refine g_istore_n (lv' := fun y => [(1, .int y), (0, .ref (ad 1))]) C dX5_usedSet_1 rfl (by decide) (fun y => rfl) h ?_
  clear h; intro v21 h
  refine g_iconst (v := (0 : Int32)) C dX5_usedSet_2 (by decide) ?_
  refine g_istore_n (lv' := fun y => [(2, .int y), (1, .int v21), (0, .ref (ad 1))]) C dX5_usedSet_3 rfl (by decide) (fun y => rfl) h ?_
  clear h; intro v22 h
  refine g_sub (lv2 := [(0, .ref (ad 1)), (1, .int v21), (2, .int v22)]) [2, 1, 0] rfl ?_
  refine wlp_X5_usedSet_4 (N := N) C hr hlk hL  _ _ _ h
end SM
