def LPl : List Nat := [32, 37, 56, 57, 58, 59, 60, 61, 62, 63, 64, 33, 34, 35, 36, 38, 39, 40, 41, 42, 43, 44, 45, 46, 47, 48, 49, 50, 51, 52, 53, 54, 55]
theorem prG_all : ∀ k, k < 95 → prG k = true → k ∈ LPl := by decide +kernel
theorem prG_LPl : ∀ k, prG k = true → k ∈ LPl := fun k h => prG_all k (of_decide_eq_true (prG_F h)) h
set_option maxHeartbeats 4000000 in
set_option maxRecDepth 100000 in
theorem mk_X3 {l : Launch} {D : va_G} {cy : Nat → ClassId} {hs hw : Nat} : Mk l D cy yX3_init cX3_init 4 3 32 684 3 [.null, .null, .null, .null, .null, .null, .null, .null, .null, .int 0, .int 0, .int 0, .int 0, .int 0, .int 0, .int 0] [.ref hs, .ref hw] LPl (fun h0 u => u.1 32 = h0 ∧ u.1 1 = hs ∧ u.1 25 = hw ∧ (∀ v, v < 8 → u.2 34 v = 7) ∧ (∀ g, g < 3 → u.2 62 g = 0) ∧ (∀ q, q < 6 → u.2 (38 + 3 * q) 0 = 0) ∧ ∀ q v, q < 6 → v < 7 → ∃ c : Nat, c < 7 ∧ u.2 (40 + 3 * q) v = nI c) := by
  refine mk_of (own := RX3) (by decide) rfl rfl (fun _ => Nat.le_of_ble_eq_true rfl) ?_
  intro p e s m args below meth c A h0 B hr hlk hin
  refine r_lv (lv2 := [(0, .ref h0), (1, .ref hs), (2, .ref hw)]) [0, 1, 2] rfl ?_
  refine r_aload_n B dX3_init_0 rfl 0 rfl ?_
  refine r_obj B lk_X3_3 in_obj cd_obj dX3_init_1 (Nat.le_of_ble_eq_true rfl) (Nat.le_of_ble_eq_true rfl) ?_
  refine r_aload_n B dX3_init_4 rfl 0 rfl ?_
  refine r_bipush (v := (6 : Int32)) B dX3_init_5 (by decide) ?_
  refine r_newqP B cl_X3_9 (N' := 6) (by decide) (by decide) (Nat.le_of_ble_eq_true rfl) (Nat.le_of_ble_eq_true rfl) (Nat.le_of_ble_eq_true rfl) dX3_init_7 (fun q1 => ?_)
  refine r_putF B hin ok3 dX3_init_10 0 rfl 3 (by decide) lk_X3_11 rfl rfl (ty := (.array (.object "StepRegisters$Plan"))) (by decide +kernel) rfl rfl (Nat.le_of_ble_eq_true rfl) (ws' := [(h0, .inr (3, [.null, .null, .null, .ref q1, .null, .null, .null, .null, .null, .int 0, .int 0, .int 0, .int 0, .int 0, .int 0, .int 0])), (q1, .inl (cy 11, 6, .inr (.inr (.inr (.inr (fun _ => none))))))]) rfl ?_
  refine r_aload_n B dX3_init_13 rfl 0 rfl ?_
  refine r_iconst (v := (2 : Int32)) B dX3_init_14 (by decide) ?_
  refine r_sipush (v := (128 : Int32)) B dX3_init_15 (by decide) ?_
  refine r_newm B cl_X3_17 (N' := 128) (by decide) (by decide) (Nat.le_of_ble_eq_true rfl) (Nat.le_of_ble_eq_true rfl) (Nat.le_of_ble_eq_true rfl) dX3_init_18 (fun q2 q3 q4 => ?_)
  refine r_putF B hin ok3 dX3_init_22 0 rfl 4 (by decide) lk_X3_19 rfl rfl (ty := (.array (.array .int))) (by decide +kernel) rfl rfl (Nat.le_of_ble_eq_true rfl) (ws' := [(h0, .inr (3, [.null, .null, .null, .ref q1, .ref q2, .null, .null, .null, .null, .int 0, .int 0, .int 0, .int 0, .int 0, .int 0, .int 0])), (q1, .inl (cy 11, 6, .inr (.inr (.inr (.inr (fun _ => none)))))), (q2, .inl (cy 13, 2, .inr (.inr (.inr (.inr (va_up (va_up (fun _ => none) 0 (some q3)) 1 (some q4))))))), (q3, .inl (cy 9, 128, .inl (fun _ => 0))), (q4, .inl (cy 9, 128, .inl (fun _ => 0)))]) rfl ?_
  refine r_aload_n B dX3_init_25 rfl 0 rfl ?_
  refine r_iconst (v := (2 : Int32)) B dX3_init_26 (by decide) ?_
  refine r_sipush (v := (128 : Int32)) B dX3_init_27 (by decide) ?_
  refine r_newm B cl_X3_17 (N' := 128) (by decide) (by decide) (Nat.le_of_ble_eq_true rfl) (Nat.le_of_ble_eq_true rfl) (Nat.le_of_ble_eq_true rfl) dX3_init_30 (fun q5 q6 q7 => ?_)
  refine r_putF B hin ok3 dX3_init_34 0 rfl 5 (by decide) lk_X3_22 rfl rfl (ty := (.array (.array .int))) (by decide +kernel) rfl rfl (Nat.le_of_ble_eq_true rfl) (ws' := [(h0, .inr (3, [.null, .null, .null, .ref q1, .ref q2, .ref q5, .null, .null, .null, .int 0, .int 0, .int 0, .int 0, .int 0, .int 0, .int 0])), (q1, .inl (cy 11, 6, .inr (.inr (.inr (.inr (fun _ => none)))))), (q2, .inl (cy 13, 2, .inr (.inr (.inr (.inr (va_up (va_up (fun _ => none) 0 (some q3)) 1 (some q4))))))), (q3, .inl (cy 9, 128, .inl (fun _ => 0))), (q4, .inl (cy 9, 128, .inl (fun _ => 0))), (q5, .inl (cy 13, 2, .inr (.inr (.inr (.inr (va_up (va_up (fun _ => none) 0 (some q6)) 1 (some q7))))))), (q6, .inl (cy 9, 128, .inl (fun _ => 0))), (q7, .inl (cy 9, 128, .inl (fun _ => 0)))]) rfl ?_
  refine r_aload_n B dX3_init_37 rfl 0 rfl ?_
  refine r_iconst (v := (3 : Int32)) B dX3_init_38 (by decide) ?_
  refine r_newi B aw_int (N' := 3) (by decide) (by decide) (Nat.le_of_ble_eq_true rfl) (Nat.le_of_ble_eq_true rfl) (Nat.le_of_ble_eq_true rfl) dX3_init_39 (fun q8 => ?_)
  refine r_putF B hin ok3 dX3_init_41 0 rfl 6 (by decide) lk_X3_25 rfl rfl (ty := (.array .int)) (by decide +kernel) rfl rfl (Nat.le_of_ble_eq_true rfl) (ws' := [(h0, .inr (3, [.null, .null, .null, .ref q1, .ref q2, .ref q5, .ref q8, .null, .null, .int 0, .int 0, .int 0, .int 0, .int 0, .int 0, .int 0])), (q1, .inl (cy 11, 6, .inr (.inr (.inr (.inr (fun _ => none)))))), (q2, .inl (cy 13, 2, .inr (.inr (.inr (.inr (va_up (va_up (fun _ => none) 0 (some q3)) 1 (some q4))))))), (q3, .inl (cy 9, 128, .inl (fun _ => 0))), (q4, .inl (cy 9, 128, .inl (fun _ => 0))), (q5, .inl (cy 13, 2, .inr (.inr (.inr (.inr (va_up (va_up (fun _ => none) 0 (some q6)) 1 (some q7))))))), (q6, .inl (cy 9, 128, .inl (fun _ => 0))), (q7, .inl (cy 9, 128, .inl (fun _ => 0))), (q8, .inl (cy 9, 3, .inl (fun _ => 0)))]) rfl ?_
  refine r_aload_n B dX3_init_44 rfl 0 rfl ?_
  refine r_iconst (v := (3 : Int32)) B dX3_init_45 (by decide) ?_
  refine r_newi B aw_int (N' := 3) (by decide) (by decide) (Nat.le_of_ble_eq_true rfl) (Nat.le_of_ble_eq_true rfl) (Nat.le_of_ble_eq_true rfl) dX3_init_46 (fun q9 => ?_)
  refine r_putF B hin ok3 dX3_init_48 0 rfl 7 (by decide) lk_X3_29 rfl rfl (ty := (.array .int)) (by decide +kernel) rfl rfl (Nat.le_of_ble_eq_true rfl) (ws' := [(h0, .inr (3, [.null, .null, .null, .ref q1, .ref q2, .ref q5, .ref q8, .ref q9, .null, .int 0, .int 0, .int 0, .int 0, .int 0, .int 0, .int 0])), (q1, .inl (cy 11, 6, .inr (.inr (.inr (.inr (fun _ => none)))))), (q2, .inl (cy 13, 2, .inr (.inr (.inr (.inr (va_up (va_up (fun _ => none) 0 (some q3)) 1 (some q4))))))), (q3, .inl (cy 9, 128, .inl (fun _ => 0))), (q4, .inl (cy 9, 128, .inl (fun _ => 0))), (q5, .inl (cy 13, 2, .inr (.inr (.inr (.inr (va_up (va_up (fun _ => none) 0 (some q6)) 1 (some q7))))))), (q6, .inl (cy 9, 128, .inl (fun _ => 0))), (q7, .inl (cy 9, 128, .inl (fun _ => 0))), (q8, .inl (cy 9, 3, .inl (fun _ => 0))), (q9, .inl (cy 9, 3, .inl (fun _ => 0)))]) rfl ?_
  refine r_aload_n B dX3_init_51 rfl 0 rfl ?_
  refine r_bipush (v := (7 : Int32)) B dX3_init_52 (by decide) ?_
  refine r_newi B aw_int (N' := 7) (by decide) (by decide) (Nat.le_of_ble_eq_true rfl) (Nat.le_of_ble_eq_true rfl) (Nat.le_of_ble_eq_true rfl) dX3_init_54 (fun q10 => ?_)
  refine r_putF B hin ok3 dX3_init_56 0 rfl 8 (by decide) lk_X3_32 rfl rfl (ty := (.array .int)) (by decide +kernel) rfl rfl (Nat.le_of_ble_eq_true rfl) (ws' := [(h0, .inr (3, [.null, .null, .null, .ref q1, .ref q2, .ref q5, .ref q8, .ref q9, .ref q10, .int 0, .int 0, .int 0, .int 0, .int 0, .int 0, .int 0])), (q1, .inl (cy 11, 6, .inr (.inr (.inr (.inr (fun _ => none)))))), (q2, .inl (cy 13, 2, .inr (.inr (.inr (.inr (va_up (va_up (fun _ => none) 0 (some q3)) 1 (some q4))))))), (q3, .inl (cy 9, 128, .inl (fun _ => 0))), (q4, .inl (cy 9, 128, .inl (fun _ => 0))), (q5, .inl (cy 13, 2, .inr (.inr (.inr (.inr (va_up (va_up (fun _ => none) 0 (some q6)) 1 (some q7))))))), (q6, .inl (cy 9, 128, .inl (fun _ => 0))), (q7, .inl (cy 9, 128, .inl (fun _ => 0))), (q8, .inl (cy 9, 3, .inl (fun _ => 0))), (q9, .inl (cy 9, 3, .inl (fun _ => 0))), (q10, .inl (cy 9, 7, .inl (fun _ => 0)))]) rfl ?_
  refine r_aload_n B dX3_init_59 rfl 0 rfl ?_
  refine r_aload_n B dX3_init_60 rfl 1 rfl ?_
  refine r_putF B hin ok3 dX3_init_61 0 rfl 0 (by decide) lk_X3_35 rfl rfl (ty := (.object "StepRegisters$State")) (by decide +kernel) rfl rfl (Nat.le_of_ble_eq_true rfl) (ws' := [(h0, .inr (3, [.ref hs, .null, .null, .ref q1, .ref q2, .ref q5, .ref q8, .ref q9, .ref q10, .int 0, .int 0, .int 0, .int 0, .int 0, .int 0, .int 0])), (q1, .inl (cy 11, 6, .inr (.inr (.inr (.inr (fun _ => none)))))), (q2, .inl (cy 13, 2, .inr (.inr (.inr (.inr (va_up (va_up (fun _ => none) 0 (some q3)) 1 (some q4))))))), (q3, .inl (cy 9, 128, .inl (fun _ => 0))), (q4, .inl (cy 9, 128, .inl (fun _ => 0))), (q5, .inl (cy 13, 2, .inr (.inr (.inr (.inr (va_up (va_up (fun _ => none) 0 (some q6)) 1 (some q7))))))), (q6, .inl (cy 9, 128, .inl (fun _ => 0))), (q7, .inl (cy 9, 128, .inl (fun _ => 0))), (q8, .inl (cy 9, 3, .inl (fun _ => 0))), (q9, .inl (cy 9, 3, .inl (fun _ => 0))), (q10, .inl (cy 9, 7, .inl (fun _ => 0)))]) rfl ?_
  refine r_aload_n B dX3_init_64 rfl 0 rfl ?_
  refine r_aload_n B dX3_init_65 rfl 2 rfl ?_
  refine r_putF B hin ok3 dX3_init_66 0 rfl 1 (by decide) lk_X3_39 rfl rfl (ty := (.object "StepRegisters$Walk")) (by decide +kernel) rfl rfl (Nat.le_of_ble_eq_true rfl) (ws' := [(h0, .inr (3, [.ref hs, .ref hw, .null, .ref q1, .ref q2, .ref q5, .ref q8, .ref q9, .ref q10, .int 0, .int 0, .int 0, .int 0, .int 0, .int 0, .int 0])), (q1, .inl (cy 11, 6, .inr (.inr (.inr (.inr (fun _ => none)))))), (q2, .inl (cy 13, 2, .inr (.inr (.inr (.inr (va_up (va_up (fun _ => none) 0 (some q3)) 1 (some q4))))))), (q3, .inl (cy 9, 128, .inl (fun _ => 0))), (q4, .inl (cy 9, 128, .inl (fun _ => 0))), (q5, .inl (cy 13, 2, .inr (.inr (.inr (.inr (va_up (va_up (fun _ => none) 0 (some q6)) 1 (some q7))))))), (q6, .inl (cy 9, 128, .inl (fun _ => 0))), (q7, .inl (cy 9, 128, .inl (fun _ => 0))), (q8, .inl (cy 9, 3, .inl (fun _ => 0))), (q9, .inl (cy 9, 3, .inl (fun _ => 0))), (q10, .inl (cy 9, 7, .inl (fun _ => 0)))]) rfl ?_
  refine r_aload_n B dX3_init_69 rfl 0 rfl ?_
  refine r_new B ok1 tyX1 tyX1_ok cl_X3_43 it_X1 ini_X1 [.null, .null, .null, .null, .int 0, .int 0, .int 0] (by decide) (Nat.le_of_ble_eq_true rfl) (Nat.le_of_ble_eq_true rfl) dX3_init_70 (fun q11 => ?_)
  refine r_dup B dX3_init_73 rfl ?_
  refine r_aload_n B dX3_init_74 rfl 2 rfl ?_
  refine r_init (av := [.ref hw]) (rest := [.ref q11, .ref h0]) B mf_X1_init rfl lk_X3_45 in_X1_init dX3_init_75 rfl rfl ⟨(Nat.le_of_ble_eq_true rfl), (Nat.le_of_ble_eq_true rfl)⟩ (Nat.le_of_ble_eq_true rfl) ⟨(Nat.le_of_ble_eq_true rfl), (Nat.le_of_ble_eq_true rfl)⟩ mk_X1 (fun u1 hu1 => ?_)
  obtain ⟨rfl, hu1⟩ := hu1
  obtain ⟨h25, hu1⟩ := hu1
  subst h25
  refine r_putF B hin ok3 dX3_init_78 0 rfl 2 (by decide) lk_X3_48 rfl rfl (ty := (.object "StepRegisters$Laying")) (by decide +kernel) rfl rfl (Nat.le_of_ble_eq_true rfl) (ws' := [(h0, .inr (3, [.ref hs, .ref (u1.1 25), .ref (u1.1 33), .ref q1, .ref q2, .ref q5, .ref q8, .ref q9, .ref q10, .int 0, .int 0, .int 0, .int 0, .int 0, .int 0, .int 0])), (q1, .inl (cy 11, 6, .inr (.inr (.inr (.inr (fun _ => none)))))), (q2, .inl (cy 13, 2, .inr (.inr (.inr (.inr (va_up (va_up (fun _ => none) 0 (some q3)) 1 (some q4))))))), (q3, .inl (cy 9, 128, .inl (fun _ => 0))), (q4, .inl (cy 9, 128, .inl (fun _ => 0))), (q5, .inl (cy 13, 2, .inr (.inr (.inr (.inr (va_up (va_up (fun _ => none) 0 (some q6)) 1 (some q7))))))), (q6, .inl (cy 9, 128, .inl (fun _ => 0))), (q7, .inl (cy 9, 128, .inl (fun _ => 0))), (q8, .inl (cy 9, 3, .inl (fun _ => 0))), (q9, .inl (cy 9, 3, .inl (fun _ => 0))), (q10, .inl (cy 9, 7, .inl (fun _ => 0)))] ++ wd [33, 34, 35, 36] u1.1 cy u1.2) rfl ?_
  refine r_iconst (v := (0 : Int32)) B dX3_init_81 (by decide) ?_
  refine r_istore_n (lv' := [(3, .int (0 : Int32)), (0, .ref h0), (1, .ref hs), (2, .ref (u1.1 25))]) B dX3_init_82 rfl (by decide) rfl ?_
  refine r_iload_n B dX3_init_83 rfl 0 rfl ?_
  refine r_aload_n B dX3_init_84 rfl 1 rfl ?_
  refine r_get B ok3 dX3_init_85 0 rfl 3 (by decide) lk_X3_11 rfl ?_
  refine r_alenP (v := (6 : Int32)) B 1 rfl rfl dX3_init_88 ?_
  refine r_geF (tgt := 111) B dX3_init_89 (by decide) (by decide) ?_
  refine r_aload_n B dX3_init_92 rfl 1 rfl ?_
  refine r_get B ok3 dX3_init_93 0 rfl 3 (by decide) lk_X3_11 rfl ?_
  refine r_iload_n B dX3_init_96 rfl 0 rfl ?_
  refine r_new B ok2 tyX2 tyX2_ok cl_X3_9 it_X2 ini_X2 [.int 0, .int 0, .int 0, .int 0, .null, .null] (by decide) (Nat.le_of_ble_eq_true rfl) (Nat.le_of_ble_eq_true rfl) dX3_init_97 (fun q12 => ?_)
  refine r_dup B dX3_init_100 rfl ?_
  refine r_initN (av := []) (rest := [.ref q12, .int (0 : Int32), .ref q1]) B mf_X2_init rfl B.2.2.2.2.2.1.2.2.2.2.2.2.1 in_X2_init dX3_init_101 rfl rfl ⟨(Nat.le_of_ble_eq_true rfl), (Nat.le_of_ble_eq_true rfl)⟩ (Nat.le_of_ble_eq_true rfl) ⟨(Nat.le_of_ble_eq_true rfl), (Nat.le_of_ble_eq_true rfl)⟩ mk_X2 (fun u2 hu2 => ?_)
  obtain ⟨rfl, hu2⟩ := hu2
  refine r_aastP B 1 15 rfl rfl (by decide) dX3_init_104 (ws' := [(h0, .inr (3, [.ref hs, .ref (u1.1 25), .ref (u1.1 33), .ref q1, .ref q2, .ref q5, .ref q8, .ref q9, .ref q10, .int 0, .int 0, .int 0, .int 0, .int 0, .int 0, .int 0])), (q1, .inl (cy 11, 6, .inr (.inr (.inr (.inr (va_up (fun _ => none) 0 (some (u2.1 38)))))))), (q2, .inl (cy 13, 2, .inr (.inr (.inr (.inr (va_up (va_up (fun _ => none) 0 (some q3)) 1 (some q4))))))), (q3, .inl (cy 9, 128, .inl (fun _ => 0))), (q4, .inl (cy 9, 128, .inl (fun _ => 0))), (q5, .inl (cy 13, 2, .inr (.inr (.inr (.inr (va_up (va_up (fun _ => none) 0 (some q6)) 1 (some q7))))))), (q6, .inl (cy 9, 128, .inl (fun _ => 0))), (q7, .inl (cy 9, 128, .inl (fun _ => 0))), (q8, .inl (cy 9, 3, .inl (fun _ => 0))), (q9, .inl (cy 9, 3, .inl (fun _ => 0))), (q10, .inl (cy 9, 7, .inl (fun _ => 0)))] ++ wd [33, 34, 35, 36] u1.1 cy u1.2 ++ wd [38, 39, 40] u2.1 cy u2.2) rfl ?_
  refine r_iinc (v := (1 : Int32)) (lv' := [(3, .int (1 : Int32)), (0, .ref h0), (1, .ref hs), (2, .ref (u1.1 25))]) B dX3_init_105 0 rfl (by decide) (by decide) rfl ?_
  refine r_goto (tgt := 83) B dX3_init_108 (by decide) ?_
  refine r_iload_n B dX3_init_83 rfl 0 rfl ?_
  refine r_aload_n B dX3_init_84 rfl 1 rfl ?_
  refine r_get B ok3 dX3_init_85 0 rfl 3 (by decide) lk_X3_11 rfl ?_
  refine r_alenP (v := (6 : Int32)) B 1 rfl rfl dX3_init_88 ?_
  refine r_geF (tgt := 111) B dX3_init_89 (by decide) (by decide) ?_
  refine r_aload_n B dX3_init_92 rfl 1 rfl ?_
  refine r_get B ok3 dX3_init_93 0 rfl 3 (by decide) lk_X3_11 rfl ?_
  refine r_iload_n B dX3_init_96 rfl 0 rfl ?_
  refine r_new B ok2 tyX2 tyX2_ok cl_X3_9 it_X2 ini_X2 [.int 0, .int 0, .int 0, .int 0, .null, .null] (by decide) (Nat.le_of_ble_eq_true rfl) (Nat.le_of_ble_eq_true rfl) dX3_init_97 (fun q13 => ?_)
  refine r_dup B dX3_init_100 rfl ?_
  refine r_initN (av := []) (rest := [.ref q13, .int (1 : Int32), .ref q1]) B mf_X2_init rfl B.2.2.2.2.2.1.2.2.2.2.2.2.1 in_X2_init dX3_init_101 rfl rfl ⟨(Nat.le_of_ble_eq_true rfl), (Nat.le_of_ble_eq_true rfl)⟩ (Nat.le_of_ble_eq_true rfl) ⟨(Nat.le_of_ble_eq_true rfl), (Nat.le_of_ble_eq_true rfl)⟩ mk_X2 (fun u3 hu3 => ?_)
  obtain ⟨rfl, hu3⟩ := hu3
  refine r_aastP B 1 18 rfl rfl (by decide) dX3_init_104 (ws' := [(h0, .inr (3, [.ref hs, .ref (u1.1 25), .ref (u1.1 33), .ref q1, .ref q2, .ref q5, .ref q8, .ref q9, .ref q10, .int 0, .int 0, .int 0, .int 0, .int 0, .int 0, .int 0])), (q1, .inl (cy 11, 6, .inr (.inr (.inr (.inr (va_up (va_up (fun _ => none) 0 (some (u2.1 38))) 1 (some (u3.1 38)))))))), (q2, .inl (cy 13, 2, .inr (.inr (.inr (.inr (va_up (va_up (fun _ => none) 0 (some q3)) 1 (some q4))))))), (q3, .inl (cy 9, 128, .inl (fun _ => 0))), (q4, .inl (cy 9, 128, .inl (fun _ => 0))), (q5, .inl (cy 13, 2, .inr (.inr (.inr (.inr (va_up (va_up (fun _ => none) 0 (some q6)) 1 (some q7))))))), (q6, .inl (cy 9, 128, .inl (fun _ => 0))), (q7, .inl (cy 9, 128, .inl (fun _ => 0))), (q8, .inl (cy 9, 3, .inl (fun _ => 0))), (q9, .inl (cy 9, 3, .inl (fun _ => 0))), (q10, .inl (cy 9, 7, .inl (fun _ => 0)))] ++ wd [33, 34, 35, 36] u1.1 cy u1.2 ++ wd [38, 39, 40] u2.1 cy u2.2 ++ wd [38, 39, 40] u3.1 cy u3.2) rfl ?_
  refine r_iinc (v := (2 : Int32)) (lv' := [(3, .int (2 : Int32)), (0, .ref h0), (1, .ref hs), (2, .ref (u1.1 25))]) B dX3_init_105 0 rfl (by decide) (by decide) rfl ?_
  refine r_goto (tgt := 83) B dX3_init_108 (by decide) ?_
  refine r_iload_n B dX3_init_83 rfl 0 rfl ?_
  refine r_aload_n B dX3_init_84 rfl 1 rfl ?_
  refine r_get B ok3 dX3_init_85 0 rfl 3 (by decide) lk_X3_11 rfl ?_
  refine r_alenP (v := (6 : Int32)) B 1 rfl rfl dX3_init_88 ?_
  refine r_geF (tgt := 111) B dX3_init_89 (by decide) (by decide) ?_
  refine r_aload_n B dX3_init_92 rfl 1 rfl ?_
  refine r_get B ok3 dX3_init_93 0 rfl 3 (by decide) lk_X3_11 rfl ?_
  refine r_iload_n B dX3_init_96 rfl 0 rfl ?_
  refine r_new B ok2 tyX2 tyX2_ok cl_X3_9 it_X2 ini_X2 [.int 0, .int 0, .int 0, .int 0, .null, .null] (by decide) (Nat.le_of_ble_eq_true rfl) (Nat.le_of_ble_eq_true rfl) dX3_init_97 (fun q14 => ?_)
  refine r_dup B dX3_init_100 rfl ?_
  refine r_initN (av := []) (rest := [.ref q14, .int (2 : Int32), .ref q1]) B mf_X2_init rfl B.2.2.2.2.2.1.2.2.2.2.2.2.1 in_X2_init dX3_init_101 rfl rfl ⟨(Nat.le_of_ble_eq_true rfl), (Nat.le_of_ble_eq_true rfl)⟩ (Nat.le_of_ble_eq_true rfl) ⟨(Nat.le_of_ble_eq_true rfl), (Nat.le_of_ble_eq_true rfl)⟩ mk_X2 (fun u4 hu4 => ?_)
  obtain ⟨rfl, hu4⟩ := hu4
  refine r_aastP B 1 21 rfl rfl (by decide) dX3_init_104 (ws' := [(h0, .inr (3, [.ref hs, .ref (u1.1 25), .ref (u1.1 33), .ref q1, .ref q2, .ref q5, .ref q8, .ref q9, .ref q10, .int 0, .int 0, .int 0, .int 0, .int 0, .int 0, .int 0])), (q1, .inl (cy 11, 6, .inr (.inr (.inr (.inr (va_up (va_up (va_up (fun _ => none) 0 (some (u2.1 38))) 1 (some (u3.1 38))) 2 (some (u4.1 38)))))))), (q2, .inl (cy 13, 2, .inr (.inr (.inr (.inr (va_up (va_up (fun _ => none) 0 (some q3)) 1 (some q4))))))), (q3, .inl (cy 9, 128, .inl (fun _ => 0))), (q4, .inl (cy 9, 128, .inl (fun _ => 0))), (q5, .inl (cy 13, 2, .inr (.inr (.inr (.inr (va_up (va_up (fun _ => none) 0 (some q6)) 1 (some q7))))))), (q6, .inl (cy 9, 128, .inl (fun _ => 0))), (q7, .inl (cy 9, 128, .inl (fun _ => 0))), (q8, .inl (cy 9, 3, .inl (fun _ => 0))), (q9, .inl (cy 9, 3, .inl (fun _ => 0))), (q10, .inl (cy 9, 7, .inl (fun _ => 0)))] ++ wd [33, 34, 35, 36] u1.1 cy u1.2 ++ wd [38, 39, 40] u2.1 cy u2.2 ++ wd [38, 39, 40] u3.1 cy u3.2 ++ wd [38, 39, 40] u4.1 cy u4.2) rfl ?_
  refine r_iinc (v := (3 : Int32)) (lv' := [(3, .int (3 : Int32)), (0, .ref h0), (1, .ref hs), (2, .ref (u1.1 25))]) B dX3_init_105 0 rfl (by decide) (by decide) rfl ?_
  refine r_goto (tgt := 83) B dX3_init_108 (by decide) ?_
  refine r_iload_n B dX3_init_83 rfl 0 rfl ?_
  refine r_aload_n B dX3_init_84 rfl 1 rfl ?_
  refine r_get B ok3 dX3_init_85 0 rfl 3 (by decide) lk_X3_11 rfl ?_
  refine r_alenP (v := (6 : Int32)) B 1 rfl rfl dX3_init_88 ?_
  refine r_geF (tgt := 111) B dX3_init_89 (by decide) (by decide) ?_
  refine r_aload_n B dX3_init_92 rfl 1 rfl ?_
  refine r_get B ok3 dX3_init_93 0 rfl 3 (by decide) lk_X3_11 rfl ?_
  refine r_iload_n B dX3_init_96 rfl 0 rfl ?_
  refine r_new B ok2 tyX2 tyX2_ok cl_X3_9 it_X2 ini_X2 [.int 0, .int 0, .int 0, .int 0, .null, .null] (by decide) (Nat.le_of_ble_eq_true rfl) (Nat.le_of_ble_eq_true rfl) dX3_init_97 (fun q15 => ?_)
  refine r_dup B dX3_init_100 rfl ?_
  refine r_initN (av := []) (rest := [.ref q15, .int (3 : Int32), .ref q1]) B mf_X2_init rfl B.2.2.2.2.2.1.2.2.2.2.2.2.1 in_X2_init dX3_init_101 rfl rfl ⟨(Nat.le_of_ble_eq_true rfl), (Nat.le_of_ble_eq_true rfl)⟩ (Nat.le_of_ble_eq_true rfl) ⟨(Nat.le_of_ble_eq_true rfl), (Nat.le_of_ble_eq_true rfl)⟩ mk_X2 (fun u5 hu5 => ?_)
  obtain ⟨rfl, hu5⟩ := hu5
  refine r_aastP B 1 24 rfl rfl (by decide) dX3_init_104 (ws' := [(h0, .inr (3, [.ref hs, .ref (u1.1 25), .ref (u1.1 33), .ref q1, .ref q2, .ref q5, .ref q8, .ref q9, .ref q10, .int 0, .int 0, .int 0, .int 0, .int 0, .int 0, .int 0])), (q1, .inl (cy 11, 6, .inr (.inr (.inr (.inr (va_up (va_up (va_up (va_up (fun _ => none) 0 (some (u2.1 38))) 1 (some (u3.1 38))) 2 (some (u4.1 38))) 3 (some (u5.1 38)))))))), (q2, .inl (cy 13, 2, .inr (.inr (.inr (.inr (va_up (va_up (fun _ => none) 0 (some q3)) 1 (some q4))))))), (q3, .inl (cy 9, 128, .inl (fun _ => 0))), (q4, .inl (cy 9, 128, .inl (fun _ => 0))), (q5, .inl (cy 13, 2, .inr (.inr (.inr (.inr (va_up (va_up (fun _ => none) 0 (some q6)) 1 (some q7))))))), (q6, .inl (cy 9, 128, .inl (fun _ => 0))), (q7, .inl (cy 9, 128, .inl (fun _ => 0))), (q8, .inl (cy 9, 3, .inl (fun _ => 0))), (q9, .inl (cy 9, 3, .inl (fun _ => 0))), (q10, .inl (cy 9, 7, .inl (fun _ => 0)))] ++ wd [33, 34, 35, 36] u1.1 cy u1.2 ++ wd [38, 39, 40] u2.1 cy u2.2 ++ wd [38, 39, 40] u3.1 cy u3.2 ++ wd [38, 39, 40] u4.1 cy u4.2 ++ wd [38, 39, 40] u5.1 cy u5.2) rfl ?_
  refine r_iinc (v := (4 : Int32)) (lv' := [(3, .int (4 : Int32)), (0, .ref h0), (1, .ref hs), (2, .ref (u1.1 25))]) B dX3_init_105 0 rfl (by decide) (by decide) rfl ?_
  refine r_goto (tgt := 83) B dX3_init_108 (by decide) ?_
  refine r_iload_n B dX3_init_83 rfl 0 rfl ?_
  refine r_aload_n B dX3_init_84 rfl 1 rfl ?_
  refine r_get B ok3 dX3_init_85 0 rfl 3 (by decide) lk_X3_11 rfl ?_
  refine r_alenP (v := (6 : Int32)) B 1 rfl rfl dX3_init_88 ?_
  refine r_geF (tgt := 111) B dX3_init_89 (by decide) (by decide) ?_
  refine r_aload_n B dX3_init_92 rfl 1 rfl ?_
  refine r_get B ok3 dX3_init_93 0 rfl 3 (by decide) lk_X3_11 rfl ?_
  refine r_iload_n B dX3_init_96 rfl 0 rfl ?_
  refine r_new B ok2 tyX2 tyX2_ok cl_X3_9 it_X2 ini_X2 [.int 0, .int 0, .int 0, .int 0, .null, .null] (by decide) (Nat.le_of_ble_eq_true rfl) (Nat.le_of_ble_eq_true rfl) dX3_init_97 (fun q16 => ?_)
  refine r_dup B dX3_init_100 rfl ?_
  refine r_initN (av := []) (rest := [.ref q16, .int (4 : Int32), .ref q1]) B mf_X2_init rfl B.2.2.2.2.2.1.2.2.2.2.2.2.1 in_X2_init dX3_init_101 rfl rfl ⟨(Nat.le_of_ble_eq_true rfl), (Nat.le_of_ble_eq_true rfl)⟩ (Nat.le_of_ble_eq_true rfl) ⟨(Nat.le_of_ble_eq_true rfl), (Nat.le_of_ble_eq_true rfl)⟩ mk_X2 (fun u6 hu6 => ?_)
  obtain ⟨rfl, hu6⟩ := hu6
  refine r_aastP B 1 27 rfl rfl (by decide) dX3_init_104 (ws' := [(h0, .inr (3, [.ref hs, .ref (u1.1 25), .ref (u1.1 33), .ref q1, .ref q2, .ref q5, .ref q8, .ref q9, .ref q10, .int 0, .int 0, .int 0, .int 0, .int 0, .int 0, .int 0])), (q1, .inl (cy 11, 6, .inr (.inr (.inr (.inr (va_up (va_up (va_up (va_up (va_up (fun _ => none) 0 (some (u2.1 38))) 1 (some (u3.1 38))) 2 (some (u4.1 38))) 3 (some (u5.1 38))) 4 (some (u6.1 38)))))))), (q2, .inl (cy 13, 2, .inr (.inr (.inr (.inr (va_up (va_up (fun _ => none) 0 (some q3)) 1 (some q4))))))), (q3, .inl (cy 9, 128, .inl (fun _ => 0))), (q4, .inl (cy 9, 128, .inl (fun _ => 0))), (q5, .inl (cy 13, 2, .inr (.inr (.inr (.inr (va_up (va_up (fun _ => none) 0 (some q6)) 1 (some q7))))))), (q6, .inl (cy 9, 128, .inl (fun _ => 0))), (q7, .inl (cy 9, 128, .inl (fun _ => 0))), (q8, .inl (cy 9, 3, .inl (fun _ => 0))), (q9, .inl (cy 9, 3, .inl (fun _ => 0))), (q10, .inl (cy 9, 7, .inl (fun _ => 0)))] ++ wd [33, 34, 35, 36] u1.1 cy u1.2 ++ wd [38, 39, 40] u2.1 cy u2.2 ++ wd [38, 39, 40] u3.1 cy u3.2 ++ wd [38, 39, 40] u4.1 cy u4.2 ++ wd [38, 39, 40] u5.1 cy u5.2 ++ wd [38, 39, 40] u6.1 cy u6.2) rfl ?_
  refine r_iinc (v := (5 : Int32)) (lv' := [(3, .int (5 : Int32)), (0, .ref h0), (1, .ref hs), (2, .ref (u1.1 25))]) B dX3_init_105 0 rfl (by decide) (by decide) rfl ?_
  refine r_goto (tgt := 83) B dX3_init_108 (by decide) ?_
  refine r_iload_n B dX3_init_83 rfl 0 rfl ?_
  refine r_aload_n B dX3_init_84 rfl 1 rfl ?_
  refine r_get B ok3 dX3_init_85 0 rfl 3 (by decide) lk_X3_11 rfl ?_
  refine r_alenP (v := (6 : Int32)) B 1 rfl rfl dX3_init_88 ?_
  refine r_geF (tgt := 111) B dX3_init_89 (by decide) (by decide) ?_
  refine r_aload_n B dX3_init_92 rfl 1 rfl ?_
  refine r_get B ok3 dX3_init_93 0 rfl 3 (by decide) lk_X3_11 rfl ?_
  refine r_iload_n B dX3_init_96 rfl 0 rfl ?_
  refine r_new B ok2 tyX2 tyX2_ok cl_X3_9 it_X2 ini_X2 [.int 0, .int 0, .int 0, .int 0, .null, .null] (by decide) (Nat.le_of_ble_eq_true rfl) (Nat.le_of_ble_eq_true rfl) dX3_init_97 (fun q17 => ?_)
  refine r_dup B dX3_init_100 rfl ?_
  refine r_initN (av := []) (rest := [.ref q17, .int (5 : Int32), .ref q1]) B mf_X2_init rfl B.2.2.2.2.2.1.2.2.2.2.2.2.1 in_X2_init dX3_init_101 rfl rfl ⟨(Nat.le_of_ble_eq_true rfl), (Nat.le_of_ble_eq_true rfl)⟩ (Nat.le_of_ble_eq_true rfl) ⟨(Nat.le_of_ble_eq_true rfl), (Nat.le_of_ble_eq_true rfl)⟩ mk_X2 (fun u7 hu7 => ?_)
  obtain ⟨rfl, hu7⟩ := hu7
  refine r_aastP B 1 30 rfl rfl (by decide) dX3_init_104 (ws' := [(h0, .inr (3, [.ref hs, .ref (u1.1 25), .ref (u1.1 33), .ref q1, .ref q2, .ref q5, .ref q8, .ref q9, .ref q10, .int 0, .int 0, .int 0, .int 0, .int 0, .int 0, .int 0])), (q1, .inl (cy 11, 6, .inr (.inr (.inr (.inr (va_up (va_up (va_up (va_up (va_up (va_up (fun _ => none) 0 (some (u2.1 38))) 1 (some (u3.1 38))) 2 (some (u4.1 38))) 3 (some (u5.1 38))) 4 (some (u6.1 38))) 5 (some (u7.1 38)))))))), (q2, .inl (cy 13, 2, .inr (.inr (.inr (.inr (va_up (va_up (fun _ => none) 0 (some q3)) 1 (some q4))))))), (q3, .inl (cy 9, 128, .inl (fun _ => 0))), (q4, .inl (cy 9, 128, .inl (fun _ => 0))), (q5, .inl (cy 13, 2, .inr (.inr (.inr (.inr (va_up (va_up (fun _ => none) 0 (some q6)) 1 (some q7))))))), (q6, .inl (cy 9, 128, .inl (fun _ => 0))), (q7, .inl (cy 9, 128, .inl (fun _ => 0))), (q8, .inl (cy 9, 3, .inl (fun _ => 0))), (q9, .inl (cy 9, 3, .inl (fun _ => 0))), (q10, .inl (cy 9, 7, .inl (fun _ => 0)))] ++ wd [33, 34, 35, 36] u1.1 cy u1.2 ++ wd [38, 39, 40] u2.1 cy u2.2 ++ wd [38, 39, 40] u3.1 cy u3.2 ++ wd [38, 39, 40] u4.1 cy u4.2 ++ wd [38, 39, 40] u5.1 cy u5.2 ++ wd [38, 39, 40] u6.1 cy u6.2 ++ wd [38, 39, 40] u7.1 cy u7.2) rfl ?_
  refine r_iinc (v := (6 : Int32)) (lv' := [(3, .int (6 : Int32)), (0, .ref h0), (1, .ref hs), (2, .ref (u1.1 25))]) B dX3_init_105 0 rfl (by decide) (by decide) rfl ?_
  refine r_goto (tgt := 83) B dX3_init_108 (by decide) ?_
  refine r_iload_n B dX3_init_83 rfl 0 rfl ?_
  refine r_aload_n B dX3_init_84 rfl 1 rfl ?_
  refine r_get B ok3 dX3_init_85 0 rfl 3 (by decide) lk_X3_11 rfl ?_
  refine r_alenP (v := (6 : Int32)) B 1 rfl rfl dX3_init_88 ?_
  refine r_geT (tgt := 111) B dX3_init_89 (by decide) (by decide) ?_
  refine r_aload_n B dX3_init_111 rfl 1 rfl ?_
  refine r_refs (f' := fun i => some ((fun k => if k = 1 then hs else if k = 25 then u1.1 25 else [h0, u1.1 33, u1.1 34, u1.1 35, u1.1 36, q1, u2.1 38, u2.1 39, u2.1 40, u3.1 38, u3.1 39, u3.1 40, u4.1 38, u4.1 39, u4.1 40, u5.1 38, u5.1 39, u5.1 40, u6.1 38, u6.1 39, u6.1 40, u7.1 38, u7.1 39, u7.1 40, q2, q3, q4, q5, q6, q7, q8, q9, q10].getD (k - 32) 0) (38 + 3 * i))) 1 rfl (fun i hi => by rcases (show i = 0 ∨ i = 1 ∨ i = 2 ∨ i = 3 ∨ i = 4 ∨ i = 5 by omega) with rfl | rfl | rfl | rfl | rfl | rfl <;> rfl) rfl ?_
  refine r_refs (f' := fun i => some ((fun k => if k = 1 then hs else if k = 25 then u1.1 25 else [h0, u1.1 33, u1.1 34, u1.1 35, u1.1 36, q1, u2.1 38, u2.1 39, u2.1 40, u3.1 38, u3.1 39, u3.1 40, u4.1 38, u4.1 39, u4.1 40, u5.1 38, u5.1 39, u5.1 40, u6.1 38, u6.1 39, u6.1 40, u7.1 38, u7.1 39, u7.1 40, q2, q3, q4, q5, q6, q7, q8, q9, q10].getD (k - 32) 0) (57 + 1 * i))) 2 rfl (fun i hi => by rcases (show i = 0 ∨ i = 1 by omega) with rfl | rfl <;> rfl) rfl ?_
  refine r_refs (f' := fun i => some ((fun k => if k = 1 then hs else if k = 25 then u1.1 25 else [h0, u1.1 33, u1.1 34, u1.1 35, u1.1 36, q1, u2.1 38, u2.1 39, u2.1 40, u3.1 38, u3.1 39, u3.1 40, u4.1 38, u4.1 39, u4.1 40, u5.1 38, u5.1 39, u5.1 40, u6.1 38, u6.1 39, u6.1 40, u7.1 38, u7.1 39, u7.1 40, q2, q3, q4, q5, q6, q7, q8, q9, q10].getD (k - 32) 0) (60 + 1 * i))) 5 rfl (fun i hi => by rcases (show i = 0 ∨ i = 1 by omega) with rfl | rfl <;> rfl) rfl ?_
  refine r_eq (ws' := [] ++ wd LPl (fun k => if k = 1 then hs else if k = 25 then u1.1 25 else [h0, u1.1 33, u1.1 34, u1.1 35, u1.1 36, q1, u2.1 38, u2.1 39, u2.1 40, u3.1 38, u3.1 39, u3.1 40, u4.1 38, u4.1 39, u4.1 40, u5.1 38, u5.1 39, u5.1 40, u6.1 38, u6.1 39, u6.1 40, u7.1 38, u7.1 39, u7.1 40, q2, q3, q4, q5, q6, q7, q8, q9, q10].getD (k - 32) 0) cy (fun k => ([(fun _ => 0), u1.2 33, u1.2 34, u1.2 35, u1.2 36, (fun _ => 0), u2.2 38, u2.2 39, u2.2 40, u3.2 38, u3.2 39, u3.2 40, u4.2 38, u4.2 39, u4.2 40, u5.2 38, u5.2 39, u5.2 40, u6.2 38, u6.2 39, u6.2 40, u7.2 38, u7.2 39, u7.2 40, (fun _ => 0), (fun _ => 0), (fun _ => 0), (fun _ => 0), (fun _ => 0), (fun _ => 0), (fun _ => 0), (fun _ => 0), (fun _ => 0)] : List (Nat → Int32)).getD (k - 32) (fun _ => 0))) rfl ?_
  obtain ⟨sF, f1, f2, f3⟩ := forgetX (st := (fun k => ([(fun _ => 0), u1.2 33, u1.2 34, u1.2 35, u1.2 36, (fun _ => 0), u2.2 38, u2.2 39, u2.2 40, u3.2 38, u3.2 39, u3.2 40, u4.2 38, u4.2 39, u4.2 40, u5.2 38, u5.2 39, u5.2 40, u6.2 38, u6.2 39, u6.2 40, u7.2 38, u7.2 39, u7.2 40, (fun _ => 0), (fun _ => 0), (fun _ => 0), (fun _ => 0), (fun _ => 0), (fun _ => 0), (fun _ => 0), (fun _ => 0), (fun _ => 0)] : List (Nat → Int32)).getD (k - 32) (fun _ => 0))) (N := 129) (by decide)
  refine r_ctV (As := []) (rest := []) (ov := none) (k := 32) B mf_X3_forget ok3 rfl lk_X3_53 in_X3_forget se_X3_forget dX3_init_112 (by decide) rfl rfl rfl ⟨(Nat.le_of_ble_eq_true rfl), (Nat.le_of_ble_eq_true rfl)⟩ (Nat.le_of_ble_eq_true rfl) ⟨(Nat.le_of_ble_eq_true rfl), (Nat.le_of_ble_eq_true rfl)⟩ (fun A' => ct_X3_forget (N := 129) prG_LPl f1) ?_
  refine r_vret B hr hlk ((fun k => if k = 1 then hs else if k = 25 then u1.1 25 else [h0, u1.1 33, u1.1 34, u1.1 35, u1.1 36, q1, u2.1 38, u2.1 39, u2.1 40, u3.1 38, u3.1 39, u3.1 40, u4.1 38, u4.1 39, u4.1 40, u5.1 38, u5.1 39, u5.1 40, u6.1 38, u6.1 39, u6.1 40, u7.1 38, u7.1 39, u7.1 40, q2, q3, q4, q5, q6, q7, q8, q9, q10].getD (k - 32) 0), sF) rfl ⟨rfl, rfl, rfl, ?_, ?_, f2, ?_⟩ (Nat.le_of_ble_eq_true rfl) (Nat.le_of_ble_eq_true rfl) dX3_init_115
  · intro v hv
    exact (congrFun (f3 34 (by decide)) v).trans (hu1 v hv)
  · intro g hg
    exact congrFun (f3 62 (by decide)) g
  · intro q v hq hv
    rcases (show q = 0 ∨ q = 1 ∨ q = 2 ∨ q = 3 ∨ q = 4 ∨ q = 5 by omega) with rfl | rfl | rfl | rfl | rfl | rfl
    · exact ⟨0, by decide, (congrFun (f3 40 (by decide)) v).trans (hu2.2 v hv)⟩
    · exact ⟨0, by decide, (congrFun (f3 43 (by decide)) v).trans (hu3.2 v hv)⟩
    · exact ⟨0, by decide, (congrFun (f3 46 (by decide)) v).trans (hu4.2 v hv)⟩
    · exact ⟨0, by decide, (congrFun (f3 49 (by decide)) v).trans (hu5.2 v hv)⟩
    · exact ⟨0, by decide, (congrFun (f3 52 (by decide)) v).trans (hu6.2 v hv)⟩
    · exact ⟨0, by decide, (congrFun (f3 55 (by decide)) v).trans (hu7.2 v hv)⟩
