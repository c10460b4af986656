set_option maxHeartbeats 4000000 in
set_option maxRecDepth 100000 in
theorem mk_X1 {l : Launch} {D : va_G} {cy : Nat → ClassId} {hw : Nat} : Mk l D cy yX1_init cX1_init 2 2 3 22 1 [.null, .null, .null, .null, .int 0, .int 0, .int 0] [.ref hw] [33, 34, 35, 36] (fun h0 u => u.1 33 = h0 ∧ u.1 25 = hw ∧ ∀ v, v < 8 → u.2 34 v = 7) := by
  refine mk_of (own := RX1) (by decide) rfl rfl (fun _ => Nat.le_of_ble_eq_true rfl) ?_
  intro p e s m args below meth c A h0 B hr hlk hin
  refine r_lv (lv2 := [(0, .ref h0), (1, .ref hw)]) [0, 1] rfl ?_
  refine r_aload_n B dX1_init_0 rfl 0 rfl ?_
  refine r_obj B lk_X1_5 in_obj cd_obj dX1_init_1 (Nat.le_of_ble_eq_true rfl) (Nat.le_of_ble_eq_true rfl) ?_
  refine r_aload_n B dX1_init_4 rfl 0 rfl ?_
  refine r_bipush (v := (8 : Int32)) B dX1_init_5 (by decide) ?_
  refine r_newi B aw_int (N' := 8) (by decide) (by decide) (Nat.le_of_ble_eq_true rfl) (Nat.le_of_ble_eq_true rfl) (Nat.le_of_ble_eq_true rfl) dX1_init_7 (fun q1 => ?_)
  refine r_putF B hin ok1 dX1_init_9 0 rfl 1 (by decide) lk_X1_11 rfl rfl (ty := (.array .int)) (by decide +kernel) rfl rfl (Nat.le_of_ble_eq_true rfl) (ws' := [(h0, .inr (1, [.null, .ref q1, .null, .null, .int 0, .int 0, .int 0])), (q1, .inl (cy 9, 8, .inl (fun _ => 0)))]) rfl ?_
  refine r_aload_n B dX1_init_12 rfl 0 rfl ?_
  refine r_bipush (v := (7 : Int32)) B dX1_init_13 (by decide) ?_
  refine r_newi B aw_int (N' := 7) (by decide) (by decide) (Nat.le_of_ble_eq_true rfl) (Nat.le_of_ble_eq_true rfl) (Nat.le_of_ble_eq_true rfl) dX1_init_15 (fun q2 => ?_)
  refine r_putF B hin ok1 dX1_init_17 0 rfl 2 (by decide) lk_X1_15 rfl rfl (ty := (.array .int)) (by decide +kernel) rfl rfl (Nat.le_of_ble_eq_true rfl) (ws' := [(h0, .inr (1, [.null, .ref q1, .ref q2, .null, .int 0, .int 0, .int 0])), (q1, .inl (cy 9, 8, .inl (fun _ => 0))), (q2, .inl (cy 9, 7, .inl (fun _ => 0)))]) rfl ?_
  refine r_aload_n B dX1_init_20 rfl 0 rfl ?_
  refine r_bipush (v := (7 : Int32)) B dX1_init_21 (by decide) ?_
  refine r_newi B aw_int (N' := 7) (by decide) (by decide) (Nat.le_of_ble_eq_true rfl) (Nat.le_of_ble_eq_true rfl) (Nat.le_of_ble_eq_true rfl) dX1_init_23 (fun q3 => ?_)
  refine r_putF B hin ok1 dX1_init_25 0 rfl 3 (by decide) lk_X1_18 rfl rfl (ty := (.array .int)) (by decide +kernel) rfl rfl (Nat.le_of_ble_eq_true rfl) (ws' := [(h0, .inr (1, [.null, .ref q1, .ref q2, .ref q3, .int 0, .int 0, .int 0])), (q1, .inl (cy 9, 8, .inl (fun _ => 0))), (q2, .inl (cy 9, 7, .inl (fun _ => 0))), (q3, .inl (cy 9, 7, .inl (fun _ => 0)))]) rfl ?_
  refine r_aload_n B dX1_init_28 rfl 0 rfl ?_
  refine r_aload_n B dX1_init_29 rfl 1 rfl ?_
  refine r_putF B hin ok1 dX1_init_30 0 rfl 0 (by decide) lk_X1_21 rfl rfl (ty := (.object "StepRegisters$Walk")) (by decide +kernel) rfl rfl (Nat.le_of_ble_eq_true rfl) (ws' := [(h0, .inr (1, [.ref hw, .ref q1, .ref q2, .ref q3, .int 0, .int 0, .int 0])), (q1, .inl (cy 9, 8, .inl (fun _ => 0))), (q2, .inl (cy 9, 7, .inl (fun _ => 0))), (q3, .inl (cy 9, 7, .inl (fun _ => 0)))]) rfl ?_
  refine r_aload_n B dX1_init_33 rfl 0 rfl ?_
  refine r_get B ok1 dX1_init_34 0 rfl 1 (by decide) lk_X1_11 rfl ?_
  refine r_bipush (v := (7 : Int32)) B dX1_init_37 (by decide) ?_
  obtain ⟨g, hg1, hg2, -⟩ := fillX (a := 34) (n := 8) (N := 129) rfl rfl (by decide) (by decide) 7 (fun _ _ => 0)
  refine r_eq (ws' := [] ++ wd [33, 34, 35, 36] (fun k => if k = 25 then hw else [h0, q1, q2, q3].getD (k - 33) 0) cy (fun _ _ => 0)) rfl ?_
  refine r_ctS (As := [.ref ((fun k => if k = 25 then hw else [h0, q1, q2, q3].getD (k - 33) 0) 34), .int (7 : Int32)]) (rest := []) (ov := none) B mf_J7_fill_53178 lk_X1_27 sm_J7_fill_53178 dX1_init_39 rfl rfl ⟨(Nat.le_of_ble_eq_true rfl), (Nat.le_of_ble_eq_true rfl)⟩ (Nat.le_of_ble_eq_true rfl) ⟨(Nat.le_of_ble_eq_true rfl), (Nat.le_of_ble_eq_true rfl)⟩ (fun A' => ct_J7_fill_53178 (N := 129) (by decide) hg1) ?_
  exact r_vret B hr hlk ((fun k => if k = 25 then hw else [h0, q1, q2, q3].getD (k - 33) 0), upr (fun _ _ => 0) 34 g) rfl ⟨rfl, rfl, hg2⟩ (Nat.le_of_ble_eq_true rfl) (Nat.le_of_ble_eq_true rfl) dX1_init_42
