set_option maxHeartbeats 4000000 in
set_option maxRecDepth 100000 in
theorem mk_X5 {l : Launch} {D : va_G} {cy : Nat → ClassId} : Mk l D cy yX5_init cX5_init 2 1 6 54 5 [.int 0, .null, .null, .null, .null, .int 0, .null, .null] [] [1, 2, 3, 4, 5, 6, 7] (fun h0 u => u.1 1 = h0 ∧ u.2 1 0 = 0 ∧ u.2 1 5 = 2 ∧ ∀ v, v < 7 → u.2 6 v = 0 ∧ u.2 7 v = nI v) := by
  refine mk_of (own := RX5) (by decide) rfl rfl (fun _ => Nat.le_of_ble_eq_true rfl) ?_
  intro p e s m args below meth c A h0 B hr hlk hin
  refine r_lv (lv2 := [(0, .ref h0)]) [0] rfl ?_
  refine r_aload_n B dX5_init_0 rfl 0 rfl ?_
  refine r_obj B lk_X5_3 in_obj cd_obj dX5_init_1 (Nat.le_of_ble_eq_true rfl) (Nat.le_of_ble_eq_true rfl) ?_
  refine r_aload_n B dX5_init_4 rfl 0 rfl ?_
  refine r_bipush (v := (10 : Int32)) B dX5_init_5 (by decide) ?_
  refine r_newi B aw_int (N' := 10) (by decide) (by decide) (Nat.le_of_ble_eq_true rfl) (Nat.le_of_ble_eq_true rfl) (Nat.le_of_ble_eq_true rfl) dX5_init_7 (fun q1 => ?_)
  refine r_putF B hin ok5 dX5_init_9 0 rfl 1 (by decide) lk_X5_9 rfl rfl (ty := (.array .int)) (by decide +kernel) rfl rfl (Nat.le_of_ble_eq_true rfl) (ws' := [(h0, .inr (5, [.int 0, .ref q1, .null, .null, .null, .int 0, .null, .null])), (q1, .inl (cy 9, 10, .inl (fun _ => 0)))]) rfl ?_
  refine r_aload_n B dX5_init_12 rfl 0 rfl ?_
  refine r_bipush (v := (10 : Int32)) B dX5_init_13 (by decide) ?_
  refine r_newi B aw_int (N' := 10) (by decide) (by decide) (Nat.le_of_ble_eq_true rfl) (Nat.le_of_ble_eq_true rfl) (Nat.le_of_ble_eq_true rfl) dX5_init_15 (fun q2 => ?_)
  refine r_putF B hin ok5 dX5_init_17 0 rfl 2 (by decide) lk_X5_15 rfl rfl (ty := (.array .int)) (by decide +kernel) rfl rfl (Nat.le_of_ble_eq_true rfl) (ws' := [(h0, .inr (5, [.int 0, .ref q1, .ref q2, .null, .null, .int 0, .null, .null])), (q1, .inl (cy 9, 10, .inl (fun _ => 0))), (q2, .inl (cy 9, 10, .inl (fun _ => 0)))]) rfl ?_
  refine r_aload_n B dX5_init_20 rfl 0 rfl ?_
  refine r_bipush (v := (10 : Int32)) B dX5_init_21 (by decide) ?_
  refine r_newi B aw_int (N' := 10) (by decide) (by decide) (Nat.le_of_ble_eq_true rfl) (Nat.le_of_ble_eq_true rfl) (Nat.le_of_ble_eq_true rfl) dX5_init_23 (fun q3 => ?_)
  refine r_putF B hin ok5 dX5_init_25 0 rfl 3 (by decide) lk_X5_18 rfl rfl (ty := (.array .int)) (by decide +kernel) rfl rfl (Nat.le_of_ble_eq_true rfl) (ws' := [(h0, .inr (5, [.int 0, .ref q1, .ref q2, .ref q3, .null, .int 0, .null, .null])), (q1, .inl (cy 9, 10, .inl (fun _ => 0))), (q2, .inl (cy 9, 10, .inl (fun _ => 0))), (q3, .inl (cy 9, 10, .inl (fun _ => 0)))]) rfl ?_
  refine r_aload_n B dX5_init_28 rfl 0 rfl ?_
  refine r_bipush (v := (10 : Int32)) B dX5_init_29 (by decide) ?_
  refine r_newi B aw_int (N' := 10) (by decide) (by decide) (Nat.le_of_ble_eq_true rfl) (Nat.le_of_ble_eq_true rfl) (Nat.le_of_ble_eq_true rfl) dX5_init_31 (fun q4 => ?_)
  refine r_putF B hin ok5 dX5_init_33 0 rfl 4 (by decide) lk_X5_21 rfl rfl (ty := (.array .int)) (by decide +kernel) rfl rfl (Nat.le_of_ble_eq_true rfl) (ws' := [(h0, .inr (5, [.int 0, .ref q1, .ref q2, .ref q3, .ref q4, .int 0, .null, .null])), (q1, .inl (cy 9, 10, .inl (fun _ => 0))), (q2, .inl (cy 9, 10, .inl (fun _ => 0))), (q3, .inl (cy 9, 10, .inl (fun _ => 0))), (q4, .inl (cy 9, 10, .inl (fun _ => 0)))]) rfl ?_
  refine r_aload_n B dX5_init_36 rfl 0 rfl ?_
  refine r_iconst (v := (2 : Int32)) B dX5_init_37 (by decide) ?_
  refine r_put B ok5 dX5_init_38 0 rfl 5 (by decide) lk_X5_24 rfl (ty := .int) (by decide +kernel) rfl rfl (Nat.le_of_ble_eq_true rfl) (ws' := [(h0, .inr (5, [.int 0, .ref q1, .ref q2, .ref q3, .ref q4, .int (2 : Int32), .null, .null])), (q1, .inl (cy 9, 10, .inl (fun _ => 0))), (q2, .inl (cy 9, 10, .inl (fun _ => 0))), (q3, .inl (cy 9, 10, .inl (fun _ => 0))), (q4, .inl (cy 9, 10, .inl (fun _ => 0)))]) rfl ?_
  refine r_aload_n B dX5_init_41 rfl 0 rfl ?_
  refine r_bipush (v := (7 : Int32)) B dX5_init_42 (by decide) ?_
  refine r_newi B aw_int (N' := 7) (by decide) (by decide) (Nat.le_of_ble_eq_true rfl) (Nat.le_of_ble_eq_true rfl) (Nat.le_of_ble_eq_true rfl) dX5_init_44 (fun q5 => ?_)
  refine r_putF B hin ok5 dX5_init_46 0 rfl 6 (by decide) lk_X5_28 rfl rfl (ty := (.array .int)) (by decide +kernel) rfl rfl (Nat.le_of_ble_eq_true rfl) (ws' := [(h0, .inr (5, [.int 0, .ref q1, .ref q2, .ref q3, .ref q4, .int (2 : Int32), .ref q5, .null])), (q1, .inl (cy 9, 10, .inl (fun _ => 0))), (q2, .inl (cy 9, 10, .inl (fun _ => 0))), (q3, .inl (cy 9, 10, .inl (fun _ => 0))), (q4, .inl (cy 9, 10, .inl (fun _ => 0))), (q5, .inl (cy 9, 7, .inl (fun _ => 0)))]) rfl ?_
  refine r_aload_n B dX5_init_49 rfl 0 rfl ?_
  refine r_bipush (v := (7 : Int32)) B dX5_init_50 (by decide) ?_
  refine r_newi B aw_int (N' := 7) (by decide) (by decide) (Nat.le_of_ble_eq_true rfl) (Nat.le_of_ble_eq_true rfl) (Nat.le_of_ble_eq_true rfl) dX5_init_52 (fun q6 => ?_)
  refine r_putF B hin ok5 dX5_init_54 0 rfl 7 (by decide) lk_X5_31 rfl rfl (ty := (.array .int)) (by decide +kernel) rfl rfl (Nat.le_of_ble_eq_true rfl) (ws' := [(h0, .inr (5, [.int 0, .ref q1, .ref q2, .ref q3, .ref q4, .int (2 : Int32), .ref q5, .ref q6])), (q1, .inl (cy 9, 10, .inl (fun _ => 0))), (q2, .inl (cy 9, 10, .inl (fun _ => 0))), (q3, .inl (cy 9, 10, .inl (fun _ => 0))), (q4, .inl (cy 9, 10, .inl (fun _ => 0))), (q5, .inl (cy 9, 7, .inl (fun _ => 0))), (q6, .inl (cy 9, 7, .inl (fun _ => 0)))]) rfl ?_
  refine r_iconst (v := (0 : Int32)) B dX5_init_57 (by decide) ?_
  refine r_istore_n (lv' := [(1, .int (0 : Int32)), (0, .ref h0)]) B dX5_init_58 rfl (by decide) rfl ?_
  refine r_iload_n B dX5_init_59 rfl 0 rfl ?_
  refine r_bipush (v := (7 : Int32)) B dX5_init_60 (by decide) ?_
  refine r_geF (tgt := 78) B dX5_init_62 (by decide) (by decide) ?_
  refine r_aload_n B dX5_init_65 rfl 1 rfl ?_
  refine r_get B ok5 dX5_init_66 0 rfl 7 (by decide) lk_X5_31 rfl ?_
  refine r_iload_n B dX5_init_69 rfl 0 rfl ?_
  refine r_iload_n B dX5_init_70 rfl 0 rfl ?_
  refine r_iast B 6 rfl (by decide) dX5_init_71 (ws' := [(h0, .inr (5, [.int 0, .ref q1, .ref q2, .ref q3, .ref q4, .int (2 : Int32), .ref q5, .ref q6])), (q1, .inl (cy 9, 10, .inl (fun _ => 0))), (q2, .inl (cy 9, 10, .inl (fun _ => 0))), (q3, .inl (cy 9, 10, .inl (fun _ => 0))), (q4, .inl (cy 9, 10, .inl (fun _ => 0))), (q5, .inl (cy 9, 7, .inl (fun _ => 0))), (q6, .inl (cy 9, 7, .inl (upd (fun _ => 0) 0 (0 : Int32))))]) rfl ?_
  refine r_iinc (v := (1 : Int32)) (lv' := [(1, .int (1 : Int32)), (0, .ref h0)]) B dX5_init_72 0 rfl (by decide) (by decide) rfl ?_
  refine r_goto (tgt := 59) B dX5_init_75 (by decide) ?_
  refine r_iload_n B dX5_init_59 rfl 0 rfl ?_
  refine r_bipush (v := (7 : Int32)) B dX5_init_60 (by decide) ?_
  refine r_geF (tgt := 78) B dX5_init_62 (by decide) (by decide) ?_
  refine r_aload_n B dX5_init_65 rfl 1 rfl ?_
  refine r_get B ok5 dX5_init_66 0 rfl 7 (by decide) lk_X5_31 rfl ?_
  refine r_iload_n B dX5_init_69 rfl 0 rfl ?_
  refine r_iload_n B dX5_init_70 rfl 0 rfl ?_
  refine r_iast B 6 rfl (by decide) dX5_init_71 (ws' := [(h0, .inr (5, [.int 0, .ref q1, .ref q2, .ref q3, .ref q4, .int (2 : Int32), .ref q5, .ref q6])), (q1, .inl (cy 9, 10, .inl (fun _ => 0))), (q2, .inl (cy 9, 10, .inl (fun _ => 0))), (q3, .inl (cy 9, 10, .inl (fun _ => 0))), (q4, .inl (cy 9, 10, .inl (fun _ => 0))), (q5, .inl (cy 9, 7, .inl (fun _ => 0))), (q6, .inl (cy 9, 7, .inl (upd (upd (fun _ => 0) 0 (0 : Int32)) 1 (1 : Int32))))]) rfl ?_
  refine r_iinc (v := (2 : Int32)) (lv' := [(1, .int (2 : Int32)), (0, .ref h0)]) B dX5_init_72 0 rfl (by decide) (by decide) rfl ?_
  refine r_goto (tgt := 59) B dX5_init_75 (by decide) ?_
  refine r_iload_n B dX5_init_59 rfl 0 rfl ?_
  refine r_bipush (v := (7 : Int32)) B dX5_init_60 (by decide) ?_
  refine r_geF (tgt := 78) B dX5_init_62 (by decide) (by decide) ?_
  refine r_aload_n B dX5_init_65 rfl 1 rfl ?_
  refine r_get B ok5 dX5_init_66 0 rfl 7 (by decide) lk_X5_31 rfl ?_
  refine r_iload_n B dX5_init_69 rfl 0 rfl ?_
  refine r_iload_n B dX5_init_70 rfl 0 rfl ?_
  refine r_iast B 6 rfl (by decide) dX5_init_71 (ws' := [(h0, .inr (5, [.int 0, .ref q1, .ref q2, .ref q3, .ref q4, .int (2 : Int32), .ref q5, .ref q6])), (q1, .inl (cy 9, 10, .inl (fun _ => 0))), (q2, .inl (cy 9, 10, .inl (fun _ => 0))), (q3, .inl (cy 9, 10, .inl (fun _ => 0))), (q4, .inl (cy 9, 10, .inl (fun _ => 0))), (q5, .inl (cy 9, 7, .inl (fun _ => 0))), (q6, .inl (cy 9, 7, .inl (upd (upd (upd (fun _ => 0) 0 (0 : Int32)) 1 (1 : Int32)) 2 (2 : Int32))))]) rfl ?_
  refine r_iinc (v := (3 : Int32)) (lv' := [(1, .int (3 : Int32)), (0, .ref h0)]) B dX5_init_72 0 rfl (by decide) (by decide) rfl ?_
  refine r_goto (tgt := 59) B dX5_init_75 (by decide) ?_
  refine r_iload_n B dX5_init_59 rfl 0 rfl ?_
  refine r_bipush (v := (7 : Int32)) B dX5_init_60 (by decide) ?_
  refine r_geF (tgt := 78) B dX5_init_62 (by decide) (by decide) ?_
  refine r_aload_n B dX5_init_65 rfl 1 rfl ?_
  refine r_get B ok5 dX5_init_66 0 rfl 7 (by decide) lk_X5_31 rfl ?_
  refine r_iload_n B dX5_init_69 rfl 0 rfl ?_
  refine r_iload_n B dX5_init_70 rfl 0 rfl ?_
  refine r_iast B 6 rfl (by decide) dX5_init_71 (ws' := [(h0, .inr (5, [.int 0, .ref q1, .ref q2, .ref q3, .ref q4, .int (2 : Int32), .ref q5, .ref q6])), (q1, .inl (cy 9, 10, .inl (fun _ => 0))), (q2, .inl (cy 9, 10, .inl (fun _ => 0))), (q3, .inl (cy 9, 10, .inl (fun _ => 0))), (q4, .inl (cy 9, 10, .inl (fun _ => 0))), (q5, .inl (cy 9, 7, .inl (fun _ => 0))), (q6, .inl (cy 9, 7, .inl (upd (upd (upd (upd (fun _ => 0) 0 (0 : Int32)) 1 (1 : Int32)) 2 (2 : Int32)) 3 (3 : Int32))))]) rfl ?_
  refine r_iinc (v := (4 : Int32)) (lv' := [(1, .int (4 : Int32)), (0, .ref h0)]) B dX5_init_72 0 rfl (by decide) (by decide) rfl ?_
  refine r_goto (tgt := 59) B dX5_init_75 (by decide) ?_
  refine r_iload_n B dX5_init_59 rfl 0 rfl ?_
  refine r_bipush (v := (7 : Int32)) B dX5_init_60 (by decide) ?_
  refine r_geF (tgt := 78) B dX5_init_62 (by decide) (by decide) ?_
  refine r_aload_n B dX5_init_65 rfl 1 rfl ?_
  refine r_get B ok5 dX5_init_66 0 rfl 7 (by decide) lk_X5_31 rfl ?_
  refine r_iload_n B dX5_init_69 rfl 0 rfl ?_
  refine r_iload_n B dX5_init_70 rfl 0 rfl ?_
  refine r_iast B 6 rfl (by decide) dX5_init_71 (ws' := [(h0, .inr (5, [.int 0, .ref q1, .ref q2, .ref q3, .ref q4, .int (2 : Int32), .ref q5, .ref q6])), (q1, .inl (cy 9, 10, .inl (fun _ => 0))), (q2, .inl (cy 9, 10, .inl (fun _ => 0))), (q3, .inl (cy 9, 10, .inl (fun _ => 0))), (q4, .inl (cy 9, 10, .inl (fun _ => 0))), (q5, .inl (cy 9, 7, .inl (fun _ => 0))), (q6, .inl (cy 9, 7, .inl (upd (upd (upd (upd (upd (fun _ => 0) 0 (0 : Int32)) 1 (1 : Int32)) 2 (2 : Int32)) 3 (3 : Int32)) 4 (4 : Int32))))]) rfl ?_
  refine r_iinc (v := (5 : Int32)) (lv' := [(1, .int (5 : Int32)), (0, .ref h0)]) B dX5_init_72 0 rfl (by decide) (by decide) rfl ?_
  refine r_goto (tgt := 59) B dX5_init_75 (by decide) ?_
  refine r_iload_n B dX5_init_59 rfl 0 rfl ?_
  refine r_bipush (v := (7 : Int32)) B dX5_init_60 (by decide) ?_
  refine r_geF (tgt := 78) B dX5_init_62 (by decide) (by decide) ?_
  refine r_aload_n B dX5_init_65 rfl 1 rfl ?_
  refine r_get B ok5 dX5_init_66 0 rfl 7 (by decide) lk_X5_31 rfl ?_
  refine r_iload_n B dX5_init_69 rfl 0 rfl ?_
  refine r_iload_n B dX5_init_70 rfl 0 rfl ?_
  refine r_iast B 6 rfl (by decide) dX5_init_71 (ws' := [(h0, .inr (5, [.int 0, .ref q1, .ref q2, .ref q3, .ref q4, .int (2 : Int32), .ref q5, .ref q6])), (q1, .inl (cy 9, 10, .inl (fun _ => 0))), (q2, .inl (cy 9, 10, .inl (fun _ => 0))), (q3, .inl (cy 9, 10, .inl (fun _ => 0))), (q4, .inl (cy 9, 10, .inl (fun _ => 0))), (q5, .inl (cy 9, 7, .inl (fun _ => 0))), (q6, .inl (cy 9, 7, .inl (upd (upd (upd (upd (upd (upd (fun _ => 0) 0 (0 : Int32)) 1 (1 : Int32)) 2 (2 : Int32)) 3 (3 : Int32)) 4 (4 : Int32)) 5 (5 : Int32))))]) rfl ?_
  refine r_iinc (v := (6 : Int32)) (lv' := [(1, .int (6 : Int32)), (0, .ref h0)]) B dX5_init_72 0 rfl (by decide) (by decide) rfl ?_
  refine r_goto (tgt := 59) B dX5_init_75 (by decide) ?_
  refine r_iload_n B dX5_init_59 rfl 0 rfl ?_
  refine r_bipush (v := (7 : Int32)) B dX5_init_60 (by decide) ?_
  refine r_geF (tgt := 78) B dX5_init_62 (by decide) (by decide) ?_
  refine r_aload_n B dX5_init_65 rfl 1 rfl ?_
  refine r_get B ok5 dX5_init_66 0 rfl 7 (by decide) lk_X5_31 rfl ?_
  refine r_iload_n B dX5_init_69 rfl 0 rfl ?_
  refine r_iload_n B dX5_init_70 rfl 0 rfl ?_
  refine r_iast B 6 rfl (by decide) dX5_init_71 (ws' := [(h0, .inr (5, [.int 0, .ref q1, .ref q2, .ref q3, .ref q4, .int (2 : Int32), .ref q5, .ref q6])), (q1, .inl (cy 9, 10, .inl (fun _ => 0))), (q2, .inl (cy 9, 10, .inl (fun _ => 0))), (q3, .inl (cy 9, 10, .inl (fun _ => 0))), (q4, .inl (cy 9, 10, .inl (fun _ => 0))), (q5, .inl (cy 9, 7, .inl (fun _ => 0))), (q6, .inl (cy 9, 7, .inl (upd (upd (upd (upd (upd (upd (upd (fun _ => 0) 0 (0 : Int32)) 1 (1 : Int32)) 2 (2 : Int32)) 3 (3 : Int32)) 4 (4 : Int32)) 5 (5 : Int32)) 6 (6 : Int32))))]) rfl ?_
  refine r_iinc (v := (7 : Int32)) (lv' := [(1, .int (7 : Int32)), (0, .ref h0)]) B dX5_init_72 0 rfl (by decide) (by decide) rfl ?_
  refine r_goto (tgt := 59) B dX5_init_75 (by decide) ?_
  refine r_iload_n B dX5_init_59 rfl 0 rfl ?_
  refine r_bipush (v := (7 : Int32)) B dX5_init_60 (by decide) ?_
  refine r_geT (tgt := 78) B dX5_init_62 (by decide) (by decide) ?_
  exact r_vret B hr hlk (fun k => [h0, q1, q2, q3, q4, q5, q6].getD (k - 1) 0, fun k => ([(upd (fun _ => 0) 5 (2 : Int32)), (fun _ => 0), (fun _ => 0), (fun _ => 0), (fun _ => 0), (fun _ => 0), (upd (upd (upd (upd (upd (upd (upd (fun _ => 0) 0 (0 : Int32)) 1 (1 : Int32)) 2 (2 : Int32)) 3 (3 : Int32)) 4 (4 : Int32)) 5 (5 : Int32)) 6 (6 : Int32))] : List (Nat → Int32)).getD (k - 1) (fun _ => 0)) rfl ⟨rfl, rfl, rfl, (by dsimp only; decide)⟩ (Nat.le_of_ble_eq_true rfl) (Nat.le_of_ble_eq_true rfl) dX5_init_78
set_option maxHeartbeats 4000000 in
set_option maxRecDepth 100000 in
theorem mk_X2 {l : Launch} {D : va_G} {cy : Nat → ClassId} : Mk l D cy yX2_init cX2_init 1 1 2 14 2 [.int 0, .int 0, .int 0, .int 0, .null, .null] [] [38, 39, 40] (fun h0 u => u.1 38 = h0 ∧ u.2 38 0 = 0 ∧ ∀ v, v < 7 → u.2 40 v = 0) := by
  refine mk_of (own := RX2) (by decide) rfl rfl (fun _ => Nat.le_of_ble_eq_true rfl) ?_
  intro p e s m args below meth c A h0 B hr hlk hin
  refine r_lv (lv2 := [(0, .ref h0)]) [0] rfl ?_
  refine r_aload_n B dX2_init_0 rfl 0 rfl ?_
  refine r_obj B lk_X2_3 in_obj cd_obj dX2_init_1 (Nat.le_of_ble_eq_true rfl) (Nat.le_of_ble_eq_true rfl) ?_
  refine r_aload_n B dX2_init_4 rfl 0 rfl ?_
  refine r_bipush (v := (7 : Int32)) B dX2_init_5 (by decide) ?_
  refine r_newi B aw_int (N' := 7) (by decide) (by decide) (Nat.le_of_ble_eq_true rfl) (Nat.le_of_ble_eq_true rfl) (Nat.le_of_ble_eq_true rfl) dX2_init_7 (fun q1 => ?_)
  refine r_putF B hin ok2 dX2_init_9 0 rfl 4 (by decide) lk_X2_9 rfl rfl (ty := (.array .int)) (by decide +kernel) rfl rfl (Nat.le_of_ble_eq_true rfl) (ws' := [(h0, .inr (2, [.int 0, .int 0, .int 0, .int 0, .ref q1, .null])), (q1, .inl (cy 9, 7, .inl (fun _ => 0)))]) rfl ?_
  refine r_aload_n B dX2_init_12 rfl 0 rfl ?_
  refine r_bipush (v := (7 : Int32)) B dX2_init_13 (by decide) ?_
  refine r_newi B aw_int (N' := 7) (by decide) (by decide) (Nat.le_of_ble_eq_true rfl) (Nat.le_of_ble_eq_true rfl) (Nat.le_of_ble_eq_true rfl) dX2_init_15 (fun q2 => ?_)
  refine r_putF B hin ok2 dX2_init_17 0 rfl 5 (by decide) lk_X2_15 rfl rfl (ty := (.array .int)) (by decide +kernel) rfl rfl (Nat.le_of_ble_eq_true rfl) (ws' := [(h0, .inr (2, [.int 0, .int 0, .int 0, .int 0, .ref q1, .ref q2])), (q1, .inl (cy 9, 7, .inl (fun _ => 0))), (q2, .inl (cy 9, 7, .inl (fun _ => 0)))]) rfl ?_
  exact r_vret B hr hlk (fun k => [h0, q1, q2].getD (k - 38) 0, fun k => ([(fun _ => 0), (fun _ => 0), (fun _ => 0)] : List (Nat → Int32)).getD (k - 38) (fun _ => 0)) rfl ⟨rfl, rfl, fun _ _ => rfl⟩ (Nat.le_of_ble_eq_true rfl) (Nat.le_of_ble_eq_true rfl) dX2_init_20
set_option maxHeartbeats 4000000 in
set_option maxRecDepth 100000 in
theorem mk_X4 {l : Launch} {D : va_G} {cy : Nat → ClassId} : Mk l D cy yX4_init cX4_init 1 1 1 30 4 [.null, .int 0] [] [23, 24] (fun h0 u => u.1 23 = h0 ∧ True) := by
  refine mk_of (own := RX4) (by decide) rfl rfl (fun _ => Nat.le_of_ble_eq_true rfl) ?_
  intro p e s m args below meth c A h0 B hr hlk hin
  refine r_lv (lv2 := [(0, .ref h0)]) [0] rfl ?_
  refine r_aload_n B dX4_init_0 rfl 0 rfl ?_
  refine r_obj B lk_X4_3 in_obj cd_obj dX4_init_1 (Nat.le_of_ble_eq_true rfl) (Nat.le_of_ble_eq_true rfl) ?_
  refine r_aload_n B dX4_init_4 rfl 0 rfl ?_
  refine r_bipush (v := (30 : Int32)) B dX4_init_5 (by decide) ?_
  refine r_newi B aw_int (N' := 30) (by decide) (by decide) (Nat.le_of_ble_eq_true rfl) (Nat.le_of_ble_eq_true rfl) (Nat.le_of_ble_eq_true rfl) dX4_init_7 (fun q1 => ?_)
  refine r_putF B hin ok4 dX4_init_9 0 rfl 0 (by decide) lk_X4_9 rfl rfl (ty := (.array .int)) (by decide +kernel) rfl rfl (Nat.le_of_ble_eq_true rfl) (ws' := [(h0, .inr (4, [.ref q1, .int 0])), (q1, .inl (cy 9, 30, .inl (fun _ => 0)))]) rfl ?_
  exact r_vret B hr hlk (fun k => [h0, q1].getD (k - 23) 0, fun k => ([(fun _ => 0), (fun _ => 0)] : List (Nat → Int32)).getD (k - 23) (fun _ => 0)) rfl ⟨rfl, trivial⟩ (Nat.le_of_ble_eq_true rfl) (Nat.le_of_ble_eq_true rfl) dX4_init_12
set_option maxHeartbeats 4000000 in
set_option maxRecDepth 100000 in
theorem mk_X6 {l : Launch} {D : va_G} {cy : Nat → ClassId} : Mk l D cy yX6_init cX6_init 1 1 6 181 6 [.null, .null, .null, .null, .null, .null, .int 0, .int 0, .int 0, .int 0] [] [25, 26, 27, 28, 29, 30, 31] (fun h0 u => u.1 25 = h0 ∧ ∀ v, v < 64 → u.2 27 v = 0) := by
  refine mk_of (own := RX6) (by decide) rfl rfl (fun _ => Nat.le_of_ble_eq_true rfl) ?_
  intro p e s m args below meth c A h0 B hr hlk hin
  refine r_lv (lv2 := [(0, .ref h0)]) [0] rfl ?_
  refine r_aload_n B dX6_init_0 rfl 0 rfl ?_
  refine r_obj B lk_X6_3 in_obj cd_obj dX6_init_1 (Nat.le_of_ble_eq_true rfl) (Nat.le_of_ble_eq_true rfl) ?_
  refine r_aload_n B dX6_init_4 rfl 0 rfl ?_
  refine r_bipush (v := (49 : Int32)) B dX6_init_5 (by decide) ?_
  refine r_newi B aw_int (N' := 49) (by decide) (by decide) (Nat.le_of_ble_eq_true rfl) (Nat.le_of_ble_eq_true rfl) (Nat.le_of_ble_eq_true rfl) dX6_init_7 (fun q1 => ?_)
  refine r_putF B hin ok6 dX6_init_9 0 rfl 0 (by decide) lk_X6_9 rfl rfl (ty := (.array .int)) (by decide +kernel) rfl rfl (Nat.le_of_ble_eq_true rfl) (ws' := [(h0, .inr (6, [.ref q1, .null, .null, .null, .null, .null, .int 0, .int 0, .int 0, .int 0])), (q1, .inl (cy 9, 49, .inl (fun _ => 0)))]) rfl ?_
  refine r_aload_n B dX6_init_12 rfl 0 rfl ?_
  refine r_bipush (v := (64 : Int32)) B dX6_init_13 (by decide) ?_
  refine r_newi B aw_int (N' := 64) (by decide) (by decide) (Nat.le_of_ble_eq_true rfl) (Nat.le_of_ble_eq_true rfl) (Nat.le_of_ble_eq_true rfl) dX6_init_15 (fun q2 => ?_)
  refine r_putF B hin ok6 dX6_init_17 0 rfl 1 (by decide) lk_X6_15 rfl rfl (ty := (.array .int)) (by decide +kernel) rfl rfl (Nat.le_of_ble_eq_true rfl) (ws' := [(h0, .inr (6, [.ref q1, .ref q2, .null, .null, .null, .null, .int 0, .int 0, .int 0, .int 0])), (q1, .inl (cy 9, 49, .inl (fun _ => 0))), (q2, .inl (cy 9, 64, .inl (fun _ => 0)))]) rfl ?_
  refine r_aload_n B dX6_init_20 rfl 0 rfl ?_
  refine r_bipush (v := (20 : Int32)) B dX6_init_21 (by decide) ?_
  refine r_newi B aw_int (N' := 20) (by decide) (by decide) (Nat.le_of_ble_eq_true rfl) (Nat.le_of_ble_eq_true rfl) (Nat.le_of_ble_eq_true rfl) dX6_init_23 (fun q3 => ?_)
  refine r_putF B hin ok6 dX6_init_25 0 rfl 2 (by decide) lk_X6_18 rfl rfl (ty := (.array .int)) (by decide +kernel) rfl rfl (Nat.le_of_ble_eq_true rfl) (ws' := [(h0, .inr (6, [.ref q1, .ref q2, .ref q3, .null, .null, .null, .int 0, .int 0, .int 0, .int 0])), (q1, .inl (cy 9, 49, .inl (fun _ => 0))), (q2, .inl (cy 9, 64, .inl (fun _ => 0))), (q3, .inl (cy 9, 20, .inl (fun _ => 0)))]) rfl ?_
  refine r_aload_n B dX6_init_28 rfl 0 rfl ?_
  refine r_bipush (v := (20 : Int32)) B dX6_init_29 (by decide) ?_
  refine r_newi B aw_int (N' := 20) (by decide) (by decide) (Nat.le_of_ble_eq_true rfl) (Nat.le_of_ble_eq_true rfl) (Nat.le_of_ble_eq_true rfl) dX6_init_31 (fun q4 => ?_)
  refine r_putF B hin ok6 dX6_init_33 0 rfl 3 (by decide) lk_X6_21 rfl rfl (ty := (.array .int)) (by decide +kernel) rfl rfl (Nat.le_of_ble_eq_true rfl) (ws' := [(h0, .inr (6, [.ref q1, .ref q2, .ref q3, .ref q4, .null, .null, .int 0, .int 0, .int 0, .int 0])), (q1, .inl (cy 9, 49, .inl (fun _ => 0))), (q2, .inl (cy 9, 64, .inl (fun _ => 0))), (q3, .inl (cy 9, 20, .inl (fun _ => 0))), (q4, .inl (cy 9, 20, .inl (fun _ => 0)))]) rfl ?_
  refine r_aload_n B dX6_init_36 rfl 0 rfl ?_
  refine r_bipush (v := (20 : Int32)) B dX6_init_37 (by decide) ?_
  refine r_newi B aw_int (N' := 20) (by decide) (by decide) (Nat.le_of_ble_eq_true rfl) (Nat.le_of_ble_eq_true rfl) (Nat.le_of_ble_eq_true rfl) dX6_init_39 (fun q5 => ?_)
  refine r_putF B hin ok6 dX6_init_41 0 rfl 4 (by decide) lk_X6_24 rfl rfl (ty := (.array .int)) (by decide +kernel) rfl rfl (Nat.le_of_ble_eq_true rfl) (ws' := [(h0, .inr (6, [.ref q1, .ref q2, .ref q3, .ref q4, .ref q5, .null, .int 0, .int 0, .int 0, .int 0])), (q1, .inl (cy 9, 49, .inl (fun _ => 0))), (q2, .inl (cy 9, 64, .inl (fun _ => 0))), (q3, .inl (cy 9, 20, .inl (fun _ => 0))), (q4, .inl (cy 9, 20, .inl (fun _ => 0))), (q5, .inl (cy 9, 20, .inl (fun _ => 0)))]) rfl ?_
  refine r_aload_n B dX6_init_44 rfl 0 rfl ?_
  refine r_bipush (v := (8 : Int32)) B dX6_init_45 (by decide) ?_
  refine r_newi B aw_int (N' := 8) (by decide) (by decide) (Nat.le_of_ble_eq_true rfl) (Nat.le_of_ble_eq_true rfl) (Nat.le_of_ble_eq_true rfl) dX6_init_47 (fun q6 => ?_)
  refine r_putF B hin ok6 dX6_init_49 0 rfl 5 (by decide) lk_X6_27 rfl rfl (ty := (.array .int)) (by decide +kernel) rfl rfl (Nat.le_of_ble_eq_true rfl) (ws' := [(h0, .inr (6, [.ref q1, .ref q2, .ref q3, .ref q4, .ref q5, .ref q6, .int 0, .int 0, .int 0, .int 0])), (q1, .inl (cy 9, 49, .inl (fun _ => 0))), (q2, .inl (cy 9, 64, .inl (fun _ => 0))), (q3, .inl (cy 9, 20, .inl (fun _ => 0))), (q4, .inl (cy 9, 20, .inl (fun _ => 0))), (q5, .inl (cy 9, 20, .inl (fun _ => 0))), (q6, .inl (cy 9, 8, .inl (fun _ => 0)))]) rfl ?_
  exact r_vret B hr hlk (fun k => [h0, q1, q2, q3, q4, q5, q6].getD (k - 25) 0, fun k => ([(fun _ => 0), (fun _ => 0), (fun _ => 0), (fun _ => 0), (fun _ => 0), (fun _ => 0), (fun _ => 0)] : List (Nat → Int32)).getD (k - 25) (fun _ => 0)) rfl ⟨rfl, fun _ _ => rfl⟩ (Nat.le_of_ble_eq_true rfl) (Nat.le_of_ble_eq_true rfl) dX6_init_52
set_option maxHeartbeats 4000000 in
set_option maxRecDepth 100000 in
theorem mk_X0 {l : Launch} {D : va_G} {cy : Nat → ClassId} : Mk l D cy yX0_init cX0_init 1 1 4 112 0 [.null, .null, .null, .null, .int 0, .int 0] [] [65, 66, 67, 68, 69] (fun h0 u => u.1 65 = h0 ∧ True) := by
  refine mk_of (own := RX0) (by decide) rfl rfl (fun _ => Nat.le_of_ble_eq_true rfl) ?_
  intro p e s m args below meth c A h0 B hr hlk hin
  refine r_lv (lv2 := [(0, .ref h0)]) [0] rfl ?_
  refine r_aload_n B dX0_init_0 rfl 0 rfl ?_
  refine r_obj B lk_X0_3 in_obj cd_obj dX0_init_1 (Nat.le_of_ble_eq_true rfl) (Nat.le_of_ble_eq_true rfl) ?_
  refine r_aload_n B dX0_init_4 rfl 0 rfl ?_
  refine r_bipush (v := (49 : Int32)) B dX0_init_5 (by decide) ?_
  refine r_newz B aw_bool (N' := 49) (by decide) (by decide) (Nat.le_of_ble_eq_true rfl) (Nat.le_of_ble_eq_true rfl) (Nat.le_of_ble_eq_true rfl) dX0_init_7 (fun q1 => ?_)
  refine r_putF B hin ok0 dX0_init_9 0 rfl 0 (by decide) lk_X0_9 rfl rfl (ty := (.array .boolean)) (by decide +kernel) rfl rfl (Nat.le_of_ble_eq_true rfl) (ws' := [(h0, .inr (0, [.ref q1, .null, .null, .null, .int 0, .int 0])), (q1, .inl (cy 10, 49, .inl (fun _ => 0)))]) rfl ?_
  refine r_aload_n B dX0_init_12 rfl 0 rfl ?_
  refine r_bipush (v := (49 : Int32)) B dX0_init_13 (by decide) ?_
  refine r_newi B aw_int (N' := 49) (by decide) (by decide) (Nat.le_of_ble_eq_true rfl) (Nat.le_of_ble_eq_true rfl) (Nat.le_of_ble_eq_true rfl) dX0_init_15 (fun q2 => ?_)
  refine r_putF B hin ok0 dX0_init_17 0 rfl 1 (by decide) lk_X0_15 rfl rfl (ty := (.array .int)) (by decide +kernel) rfl rfl (Nat.le_of_ble_eq_true rfl) (ws' := [(h0, .inr (0, [.ref q1, .ref q2, .null, .null, .int 0, .int 0])), (q1, .inl (cy 10, 49, .inl (fun _ => 0))), (q2, .inl (cy 9, 49, .inl (fun _ => 0)))]) rfl ?_
  refine r_aload_n B dX0_init_20 rfl 0 rfl ?_
  refine r_bipush (v := (7 : Int32)) B dX0_init_21 (by decide) ?_
  refine r_newi B aw_int (N' := 7) (by decide) (by decide) (Nat.le_of_ble_eq_true rfl) (Nat.le_of_ble_eq_true rfl) (Nat.le_of_ble_eq_true rfl) dX0_init_23 (fun q3 => ?_)
  refine r_putF B hin ok0 dX0_init_25 0 rfl 2 (by decide) lk_X0_19 rfl rfl (ty := (.array .int)) (by decide +kernel) rfl rfl (Nat.le_of_ble_eq_true rfl) (ws' := [(h0, .inr (0, [.ref q1, .ref q2, .ref q3, .null, .int 0, .int 0])), (q1, .inl (cy 10, 49, .inl (fun _ => 0))), (q2, .inl (cy 9, 49, .inl (fun _ => 0))), (q3, .inl (cy 9, 7, .inl (fun _ => 0)))]) rfl ?_
  refine r_aload_n B dX0_init_28 rfl 0 rfl ?_
  refine r_bipush (v := (7 : Int32)) B dX0_init_29 (by decide) ?_
  refine r_newi B aw_int (N' := 7) (by decide) (by decide) (Nat.le_of_ble_eq_true rfl) (Nat.le_of_ble_eq_true rfl) (Nat.le_of_ble_eq_true rfl) dX0_init_31 (fun q4 => ?_)
  refine r_putF B hin ok0 dX0_init_33 0 rfl 3 (by decide) lk_X0_22 rfl rfl (ty := (.array .int)) (by decide +kernel) rfl rfl (Nat.le_of_ble_eq_true rfl) (ws' := [(h0, .inr (0, [.ref q1, .ref q2, .ref q3, .ref q4, .int 0, .int 0])), (q1, .inl (cy 10, 49, .inl (fun _ => 0))), (q2, .inl (cy 9, 49, .inl (fun _ => 0))), (q3, .inl (cy 9, 7, .inl (fun _ => 0))), (q4, .inl (cy 9, 7, .inl (fun _ => 0)))]) rfl ?_
  exact r_vret B hr hlk (fun k => [h0, q1, q2, q3, q4].getD (k - 65) 0, fun k => ([(fun _ => 0), (fun _ => 0), (fun _ => 0), (fun _ => 0), (fun _ => 0)] : List (Nat → Int32)).getD (k - 65) (fun _ => 0)) rfl ⟨rfl, trivial⟩ (Nat.le_of_ble_eq_true rfl) (Nat.le_of_ble_eq_true rfl) dX0_init_36
