def LXl : List Nat := [0, 22, 8, 9, 10, 11, 12, 13, 14, 15, 16, 17, 18, 19, 20, 21, 23, 24, 1, 2, 3, 4, 5, 6, 7, 25, 26, 27, 28, 29, 30, 31, 32, 37, 56, 57, 58, 59, 60, 61, 62, 63, 64, 33, 34, 35, 36, 38, 39, 40, 41, 42, 43, 44, 45, 46, 47, 48, 49, 50, 51, 52, 53, 54, 55, 65, 66, 67, 68, 69]
theorem prM_all : ∀ k, k < 95 → prM k = true → k ∈ [1, 2, 3, 4, 5, 6, 7, 25, 26, 27, 28, 29, 30, 31] := by decide +kernel
theorem prM_L1 : ∀ k, prM k = true → k ∈ [1, 2, 3, 4, 5, 6, 7, 25, 26, 27, 28, 29, 30, 31] := fun k h => prM_all k (of_decide_eq_true (prM_F h)) h
theorem ad_two {aP : Nat → Nat} {x y : Nat} (h1 : aP 1 = x) (h25 : aP 25 = y) : aP = fun k => if k = 1 then x else if k = 25 then y else aP k := by
  funext k
  by_cases k1 : k = 1
  · rw [if_pos k1, k1]; exact h1
  · by_cases k2 : k = 25
    · rw [if_neg k1, if_pos k2, k2]; exact h25
    · rw [if_neg k1, if_neg k2]
/-- a new object -/
def IX (st : St) : Prop := st 0 2 = 0 ∧ st 1 0 = 0 ∧ st 1 5 = 2 ∧ (∀ v, v < 7 → st 6 v = 0 ∧ st 7 v = nI v) ∧ (∀ a b, a < 8 → b < 8 → st 27 (a * 8 + b) = bi (decide (a < 7) && decide (b < 7) && far 2 a b)) ∧ (∀ v, v < 8 → st 34 v = 7) ∧ (∀ g, g < 3 → st 62 g = 0) ∧ (∀ q, q < 6 → st (38 + 3 * q) 0 = 0) ∧ ∀ q v, q < 6 → v < 7 → ∃ c : Nat, c < 7 ∧ st (40 + 3 * q) v = nI c
set_option maxHeartbeats 4000000 in
set_option maxRecDepth 100000 in
theorem mk_X7 {l : Launch} {D : va_G} {cy : Nat → ClassId} : Mk l D cy yX7_init cX7_init 2 4 69 1229 7 [.null, .null, .int 0, .null, .null, .null, .null] [] LXl (fun h0 u => u.1 0 = h0 ∧ IX u.2) := by
  refine mk_of (own := RX7) (by decide) rfl rfl (fun _ => Nat.le_of_ble_eq_true rfl) ?_
  intro p e s m args below meth c A h0 B hr hlk hin
  refine r_lv (lv2 := [(0, .ref h0)]) [0] rfl ?_
  refine r_aload_n B dX7_init_0 rfl 0 rfl ?_
  refine r_obj B lk_X7_3 in_obj cd_obj dX7_init_1 (Nat.le_of_ble_eq_true rfl) (Nat.le_of_ble_eq_true rfl) ?_
  refine r_aload_n B dX7_init_4 rfl 0 rfl ?_
  refine r_new B ok5 tyX5 tyX5_ok cl_X7_9 it_X5 ini_X5 [.int 0, .null, .null, .null, .null, .int 0, .null, .null] (by decide) (Nat.le_of_ble_eq_true rfl) (Nat.le_of_ble_eq_true rfl) dX7_init_5 (fun q1 => ?_)
  refine r_dup B dX7_init_8 rfl ?_
  refine r_init (av := []) (rest := [.ref q1, .ref h0]) B mf_X5_init rfl lk_X7_11 in_X5_init dX7_init_9 rfl rfl ⟨(Nat.le_of_ble_eq_true rfl), (Nat.le_of_ble_eq_true rfl)⟩ (Nat.le_of_ble_eq_true rfl) ⟨(Nat.le_of_ble_eq_true rfl), (Nat.le_of_ble_eq_true rfl)⟩ mk_X5 (fun u1 hu1 => ?_)
  obtain ⟨rfl, hu1⟩ := hu1
  refine r_putF B hin ok7 dX7_init_12 0 rfl 0 (by decide) lk_X7_12 rfl rfl (ty := (.object "StepRegisters$State")) (by decide +kernel) rfl rfl (Nat.le_of_ble_eq_true rfl) (ws' := [(h0, .inr (7, [.ref (u1.1 1), .null, .int 0, .null, .null, .null, .null]))] ++ wd [1, 2, 3, 4, 5, 6, 7] u1.1 cy u1.2) rfl ?_
  refine r_aload_n B dX7_init_15 rfl 0 rfl ?_
  refine r_iconst (v := (2 : Int32)) B dX7_init_16 (by decide) ?_
  refine r_newqS B cl_X7_9 (N' := 2) (by decide) (by decide) (Nat.le_of_ble_eq_true rfl) (Nat.le_of_ble_eq_true rfl) (Nat.le_of_ble_eq_true rfl) dX7_init_17 (fun q2 => ?_)
  refine r_putF B hin ok7 dX7_init_20 0 rfl 1 (by decide) lk_X7_16 rfl rfl (ty := (.array (.object "StepRegisters$State"))) (by decide +kernel) rfl rfl (Nat.le_of_ble_eq_true rfl) (ws' := [(h0, .inr (7, [.ref (u1.1 1), .ref q2, .int 0, .null, .null, .null, .null]))] ++ wd [1, 2, 3, 4, 5, 6, 7] u1.1 cy u1.2 ++ [(q2, .inl (cy 12, 2, .inr (.inr (.inr (.inr (fun _ => none))))))]) rfl ?_
  refine r_iconst (v := (0 : Int32)) B dX7_init_23 (by decide) ?_
  refine r_istore_n (lv' := [(1, .int (0 : Int32)), (0, .ref h0)]) B dX7_init_24 rfl (by decide) rfl ?_
  refine r_iload_n B dX7_init_25 rfl 0 rfl ?_
  refine r_iconst (v := (2 : Int32)) B dX7_init_26 (by decide) ?_
  refine r_geF (tgt := 49) B dX7_init_27 (by decide) (by decide) ?_
  refine r_aload_n B dX7_init_30 rfl 1 rfl ?_
  refine r_get B ok7 dX7_init_31 0 rfl 1 (by decide) lk_X7_16 rfl ?_
  refine r_iload_n B dX7_init_34 rfl 0 rfl ?_
  refine r_new B ok5 tyX5 tyX5_ok cl_X7_9 it_X5 ini_X5 [.int 0, .null, .null, .null, .null, .int 0, .null, .null] (by decide) (Nat.le_of_ble_eq_true rfl) (Nat.le_of_ble_eq_true rfl) dX7_init_35 (fun q3 => ?_)
  refine r_dup B dX7_init_38 rfl ?_
  refine r_init (av := []) (rest := [.ref q3, .int (0 : Int32), .ref q2]) B mf_X5_init rfl lk_X7_11 in_X5_init dX7_init_39 rfl rfl ⟨(Nat.le_of_ble_eq_true rfl), (Nat.le_of_ble_eq_true rfl)⟩ (Nat.le_of_ble_eq_true rfl) ⟨(Nat.le_of_ble_eq_true rfl), (Nat.le_of_ble_eq_true rfl)⟩ mk_X5 (fun u2 hu2 => ?_)
  obtain ⟨rfl, hu2⟩ := hu2
  refine r_aastS B 8 9 rfl rfl (by decide) dX7_init_42 (ws' := [(h0, .inr (7, [.ref (u1.1 1), .ref q2, .int 0, .null, .null, .null, .null]))] ++ wd [1, 2, 3, 4, 5, 6, 7] u1.1 cy u1.2 ++ [(q2, .inl (cy 12, 2, .inr (.inr (.inr (.inr (va_up (fun _ => none) 0 (some (u2.1 1))))))))] ++ wd [1, 2, 3, 4, 5, 6, 7] u2.1 cy u2.2) rfl ?_
  refine r_iinc (v := (1 : Int32)) (lv' := [(1, .int (1 : Int32)), (0, .ref h0)]) B dX7_init_43 0 rfl (by decide) (by decide) rfl ?_
  refine r_goto (tgt := 25) B dX7_init_46 (by decide) ?_
  refine r_iload_n B dX7_init_25 rfl 0 rfl ?_
  refine r_iconst (v := (2 : Int32)) B dX7_init_26 (by decide) ?_
  refine r_geF (tgt := 49) B dX7_init_27 (by decide) (by decide) ?_
  refine r_aload_n B dX7_init_30 rfl 1 rfl ?_
  refine r_get B ok7 dX7_init_31 0 rfl 1 (by decide) lk_X7_16 rfl ?_
  refine r_iload_n B dX7_init_34 rfl 0 rfl ?_
  refine r_new B ok5 tyX5 tyX5_ok cl_X7_9 it_X5 ini_X5 [.int 0, .null, .null, .null, .null, .int 0, .null, .null] (by decide) (Nat.le_of_ble_eq_true rfl) (Nat.le_of_ble_eq_true rfl) dX7_init_35 (fun q4 => ?_)
  refine r_dup B dX7_init_38 rfl ?_
  refine r_init (av := []) (rest := [.ref q4, .int (1 : Int32), .ref q2]) B mf_X5_init rfl lk_X7_11 in_X5_init dX7_init_39 rfl rfl ⟨(Nat.le_of_ble_eq_true rfl), (Nat.le_of_ble_eq_true rfl)⟩ (Nat.le_of_ble_eq_true rfl) ⟨(Nat.le_of_ble_eq_true rfl), (Nat.le_of_ble_eq_true rfl)⟩ mk_X5 (fun u3 hu3 => ?_)
  obtain ⟨rfl, hu3⟩ := hu3
  refine r_aastS B 8 16 rfl rfl (by decide) dX7_init_42 (ws' := [(h0, .inr (7, [.ref (u1.1 1), .ref q2, .int 0, .null, .null, .null, .null]))] ++ wd [1, 2, 3, 4, 5, 6, 7] u1.1 cy u1.2 ++ [(q2, .inl (cy 12, 2, .inr (.inr (.inr (.inr (va_up (va_up (fun _ => none) 0 (some (u2.1 1))) 1 (some (u3.1 1))))))))] ++ wd [1, 2, 3, 4, 5, 6, 7] u2.1 cy u2.2 ++ wd [1, 2, 3, 4, 5, 6, 7] u3.1 cy u3.2) rfl ?_
  refine r_iinc (v := (2 : Int32)) (lv' := [(1, .int (2 : Int32)), (0, .ref h0)]) B dX7_init_43 0 rfl (by decide) (by decide) rfl ?_
  refine r_goto (tgt := 25) B dX7_init_46 (by decide) ?_
  refine r_iload_n B dX7_init_25 rfl 0 rfl ?_
  refine r_iconst (v := (2 : Int32)) B dX7_init_26 (by decide) ?_
  refine r_geT (tgt := 49) B dX7_init_27 (by decide) (by decide) ?_
  refine r_aload_n B dX7_init_49 rfl 1 rfl ?_
  refine r_new B ok4 tyX4 tyX4_ok cl_X7_20 it_X4 ini_X4 [.null, .int 0] (by decide) (Nat.le_of_ble_eq_true rfl) (Nat.le_of_ble_eq_true rfl) dX7_init_50 (fun q5 => ?_)
  refine r_dup B dX7_init_53 rfl ?_
  refine r_initN (av := []) (rest := [.ref q5, .ref h0]) B mf_X4_init rfl B.2.2.2.2.2.1.2.2.2.2.1 in_X4_init dX7_init_54 rfl rfl ⟨(Nat.le_of_ble_eq_true rfl), (Nat.le_of_ble_eq_true rfl)⟩ (Nat.le_of_ble_eq_true rfl) ⟨(Nat.le_of_ble_eq_true rfl), (Nat.le_of_ble_eq_true rfl)⟩ mk_X4 (fun u4 hu4 => ?_)
  obtain ⟨rfl, hu4⟩ := hu4
  refine r_putF B hin ok7 dX7_init_57 0 rfl 3 (by decide) lk_X7_23 rfl rfl (ty := (.object "StepRegisters$Sight")) (by decide +kernel) rfl rfl (Nat.le_of_ble_eq_true rfl) (ws' := [(h0, .inr (7, [.ref (u1.1 1), .ref q2, .int 0, .ref (u4.1 23), .null, .null, .null]))] ++ wd [1, 2, 3, 4, 5, 6, 7] u1.1 cy u1.2 ++ [(q2, .inl (cy 12, 2, .inr (.inr (.inr (.inr (va_up (va_up (fun _ => none) 0 (some (u2.1 1))) 1 (some (u3.1 1))))))))] ++ wd [1, 2, 3, 4, 5, 6, 7] u2.1 cy u2.2 ++ wd [1, 2, 3, 4, 5, 6, 7] u3.1 cy u3.2 ++ wd [23, 24] u4.1 cy u4.2) rfl ?_
  refine r_aload_n B dX7_init_60 rfl 1 rfl ?_
  refine r_new B ok6 tyX6 tyX6_ok cl_X7_27 it_X6 ini_X6 [.null, .null, .null, .null, .null, .null, .int 0, .int 0, .int 0, .int 0] (by decide) (Nat.le_of_ble_eq_true rfl) (Nat.le_of_ble_eq_true rfl) dX7_init_61 (fun q6 => ?_)
  refine r_dup B dX7_init_64 rfl ?_
  refine r_initN (av := []) (rest := [.ref q6, .ref h0]) B mf_X6_init rfl B.2.2.2.2.2.1.2.2.2.2.2.1 in_X6_init dX7_init_65 rfl rfl ⟨(Nat.le_of_ble_eq_true rfl), (Nat.le_of_ble_eq_true rfl)⟩ (Nat.le_of_ble_eq_true rfl) ⟨(Nat.le_of_ble_eq_true rfl), (Nat.le_of_ble_eq_true rfl)⟩ mk_X6 (fun u5 hu5 => ?_)
  obtain ⟨rfl, hu5⟩ := hu5
  refine r_putF B hin ok7 dX7_init_68 0 rfl 4 (by decide) lk_X7_30 rfl rfl (ty := (.object "StepRegisters$Walk")) (by decide +kernel) rfl rfl (Nat.le_of_ble_eq_true rfl) (ws' := [(h0, .inr (7, [.ref (u1.1 1), .ref q2, .int 0, .ref (u4.1 23), .ref (u5.1 25), .null, .null]))] ++ wd [1, 2, 3, 4, 5, 6, 7] u1.1 cy u1.2 ++ [(q2, .inl (cy 12, 2, .inr (.inr (.inr (.inr (va_up (va_up (fun _ => none) 0 (some (u2.1 1))) 1 (some (u3.1 1))))))))] ++ wd [1, 2, 3, 4, 5, 6, 7] u2.1 cy u2.2 ++ wd [1, 2, 3, 4, 5, 6, 7] u3.1 cy u3.2 ++ wd [23, 24] u4.1 cy u4.2 ++ wd [25, 26, 27, 28, 29, 30, 31] u5.1 cy u5.2) rfl ?_
  refine r_aload_n B dX7_init_71 rfl 1 rfl ?_
  refine r_get B ok7 dX7_init_72 0 rfl 4 (by decide) lk_X7_30 rfl ?_
  refine r_aload_n B dX7_init_75 rfl 1 rfl ?_
  refine r_get B ok7 dX7_init_76 0 rfl 0 (by decide) lk_X7_12 rfl ?_
  refine r_perm (ws' := [(h0, .inr (7, [.ref (u1.1 1), .ref q2, .int 0, .ref (u4.1 23), .ref (u5.1 25), .null, .null])), (q2, .inl (cy 12, 2, .inr (.inr (.inr (.inr (va_up (va_up (fun _ => none) 0 (some (u2.1 1))) 1 (some (u3.1 1))))))))] ++ wd [1, 2, 3, 4, 5, 6, 7] u2.1 cy u2.2 ++ wd [1, 2, 3, 4, 5, 6, 7] u3.1 cy u3.2 ++ wd [23, 24] u4.1 cy u4.2 ++ wd [1, 2, 3, 4, 5, 6, 7, 25, 26, 27, 28, 29, 30, 31] (fun k => if k < 8 then u1.1 k else u5.1 k) cy (fun k => if k < 8 then u1.2 k else u5.2 k)) [0, 8, 9, 10, 11, 12, 13, 14, 15, 16, 17, 18, 19, 20, 21, 22, 23, 24, 1, 2, 3, 4, 5, 6, 7, 25, 26, 27, 28, 29, 30, 31] (by decide) rfl rfl ?_
  obtain ⟨g, g1, g2⟩ := measX (st := (fun k => if k < 8 then u1.2 k else u5.2 k)) (F := 2) (N := 129) (by decide) (by decide) hu1.2.1 (fun a b ha hb _ => hu5 _ (by omega))
  refine r_ctV (As := [.ref (u1.1 1)]) (rest := []) (ov := none) (k := 25) (L := [1, 2, 3, 4, 5, 6, 7, 25, 26, 27, 28, 29, 30, 31]) (ad := (fun k => if k < 8 then u1.1 k else u5.1 k)) B mf_X6_measure ok6 rfl lk_X7_34 in_X6_measure se_X6_measure dX7_init_79 (by decide) rfl rfl rfl ⟨(Nat.le_of_ble_eq_true rfl), (Nat.le_of_ble_eq_true rfl)⟩ (Nat.le_of_ble_eq_true rfl) ⟨(Nat.le_of_ble_eq_true rfl), (Nat.le_of_ble_eq_true rfl)⟩ (fun A' => ct_X6_measure (N := 129) prM_L1 g1) ?_
  refine r_aload_n B dX7_init_82 rfl 1 rfl ?_
  refine r_new B ok3 tyX3 tyX3_ok cl_X7_38 it_X3 ini_X3 [.null, .null, .null, .null, .null, .null, .null, .null, .null, .int 0, .int 0, .int 0, .int 0, .int 0, .int 0, .int 0] (by decide) (Nat.le_of_ble_eq_true rfl) (Nat.le_of_ble_eq_true rfl) dX7_init_83 (fun q7 => ?_)
  refine r_dup B dX7_init_86 rfl ?_
  refine r_aload_n B dX7_init_87 rfl 1 rfl ?_
  refine r_get B ok7 dX7_init_88 0 rfl 0 (by decide) lk_X7_12 rfl ?_
  refine r_aload_n B dX7_init_91 rfl 1 rfl ?_
  refine r_get B ok7 dX7_init_92 0 rfl 4 (by decide) lk_X7_30 rfl ?_
  refine r_init (av := [.ref (u1.1 1), .ref (u5.1 25)]) (rest := [.ref q7, .ref h0]) B mf_X3_init rfl lk_X7_40 in_X3_init dX7_init_95 rfl rfl ⟨(Nat.le_of_ble_eq_true rfl), (Nat.le_of_ble_eq_true rfl)⟩ (Nat.le_of_ble_eq_true rfl) ⟨(Nat.le_of_ble_eq_true rfl), (Nat.le_of_ble_eq_true rfl)⟩ mk_X3 (fun u6 hu6 => ?_)
  obtain ⟨rfl, hu6⟩ := hu6
  obtain ⟨h1, h25, hu6⟩ := hu6
  obtain ⟨aP, sP⟩ := u6
  obtain ⟨b, hb⟩ : ∃ b : Nat → Nat, aP = fun k => if k = 1 then u1.1 1 else if k = 25 then u5.1 25 else b k := ⟨aP, ad_two h1 h25⟩
  subst hb
  refine r_putF B hin ok7 dX7_init_98 0 rfl 5 (by decide) lk_X7_43 rfl rfl (ty := (.object "StepRegisters$Planner")) (by decide +kernel) rfl rfl (Nat.le_of_ble_eq_true rfl) (ws' := [(h0, .inr (7, [.ref (u1.1 1), .ref q2, .int 0, .ref (u4.1 23), .ref (u5.1 25), .ref ((fun k => if k = 1 then u1.1 1 else if k = 25 then u5.1 25 else b k) 32), .null])), (q2, .inl (cy 12, 2, .inr (.inr (.inr (.inr (va_up (va_up (fun _ => none) 0 (some (u2.1 1))) 1 (some (u3.1 1))))))))] ++ wd [1, 2, 3, 4, 5, 6, 7] u2.1 cy u2.2 ++ wd [1, 2, 3, 4, 5, 6, 7] u3.1 cy u3.2 ++ wd [23, 24] u4.1 cy u4.2 ++ wd [1, 2, 3, 4, 5, 6, 7, 25, 26, 27, 28, 29, 30, 31] (fun k => if k < 8 then u1.1 k else u5.1 k) cy (upr (fun k => if k < 8 then u1.2 k else u5.2 k) 27 g) ++ wd LPl (fun k => if k = 1 then u1.1 1 else if k = 25 then u5.1 25 else b k) cy sP) rfl ?_
  refine r_aload_n B dX7_init_101 rfl 1 rfl ?_
  refine r_new B ok0 tyX0 tyX0_ok cl_X7_47 it_X0 ini_X0 [.null, .null, .null, .null, .int 0, .int 0] (by decide) (Nat.le_of_ble_eq_true rfl) (Nat.le_of_ble_eq_true rfl) dX7_init_102 (fun q8 => ?_)
  refine r_dup B dX7_init_105 rfl ?_
  refine r_initN (av := []) (rest := [.ref q8, .ref h0]) B mf_X0_init rfl B.2.2.2.2.2.1.2.2.2.2.2.2.2 in_X0_init dX7_init_106 rfl rfl ⟨(Nat.le_of_ble_eq_true rfl), (Nat.le_of_ble_eq_true rfl)⟩ (Nat.le_of_ble_eq_true rfl) ⟨(Nat.le_of_ble_eq_true rfl), (Nat.le_of_ble_eq_true rfl)⟩ mk_X0 (fun u7 hu7 => ?_)
  obtain ⟨rfl, hu7⟩ := hu7
  refine r_putF B hin ok7 dX7_init_109 0 rfl 6 (by decide) lk_X7_50 rfl rfl (ty := (.object "StepRegisters$Greedy")) (by decide +kernel) rfl rfl (Nat.le_of_ble_eq_true rfl) (ws' := [(h0, .inr (7, [.ref (u1.1 1), .ref q2, .int 0, .ref (u4.1 23), .ref (u5.1 25), .ref ((fun k => if k = 1 then u1.1 1 else if k = 25 then u5.1 25 else b k) 32), .ref (u7.1 65)])), (q2, .inl (cy 12, 2, .inr (.inr (.inr (.inr (va_up (va_up (fun _ => none) 0 (some (u2.1 1))) 1 (some (u3.1 1))))))))] ++ wd [1, 2, 3, 4, 5, 6, 7] u2.1 cy u2.2 ++ wd [1, 2, 3, 4, 5, 6, 7] u3.1 cy u3.2 ++ wd [23, 24] u4.1 cy u4.2 ++ wd [1, 2, 3, 4, 5, 6, 7, 25, 26, 27, 28, 29, 30, 31] (fun k => if k < 8 then u1.1 k else u5.1 k) cy (upr (fun k => if k < 8 then u1.2 k else u5.2 k) 27 g) ++ wd LPl (fun k => if k = 1 then u1.1 1 else if k = 25 then u5.1 25 else b k) cy sP ++ wd [65, 66, 67, 68, 69] u7.1 cy u7.2) rfl ?_
  refine r_refs (f' := fun i => some ((fun k => [h0, u1.1 1, u1.1 2, u1.1 3, u1.1 4, u1.1 5, u1.1 6, u1.1 7, u2.1 1, u2.1 2, u2.1 3, u2.1 4, u2.1 5, u2.1 6, u2.1 7, u3.1 1, u3.1 2, u3.1 3, u3.1 4, u3.1 5, u3.1 6, u3.1 7, q2, u4.1 23, u4.1 24, u5.1 25, u5.1 26, u5.1 27, u5.1 28, u5.1 29, u5.1 30, u5.1 31, b 32, b 33, b 34, b 35, b 36, b 37, b 38, b 39, b 40, b 41, b 42, b 43, b 44, b 45, b 46, b 47, b 48, b 49, b 50, b 51, b 52, b 53, b 54, b 55, b 56, b 57, b 58, b 59, b 60, b 61, b 62, b 63, b 64, u7.1 65, u7.1 66, u7.1 67, u7.1 68, u7.1 69].getD k 0) (8 + 7 * i))) 1 rfl (fun i hi => by rcases (show i = 0 ∨ i = 1 by omega) with rfl | rfl <;> rfl) rfl ?_
  refine r_refs (f' := fun i => some ((fun k => [h0, u1.1 1, u1.1 2, u1.1 3, u1.1 4, u1.1 5, u1.1 6, u1.1 7, u2.1 1, u2.1 2, u2.1 3, u2.1 4, u2.1 5, u2.1 6, u2.1 7, u3.1 1, u3.1 2, u3.1 3, u3.1 4, u3.1 5, u3.1 6, u3.1 7, q2, u4.1 23, u4.1 24, u5.1 25, u5.1 26, u5.1 27, u5.1 28, u5.1 29, u5.1 30, u5.1 31, b 32, b 33, b 34, b 35, b 36, b 37, b 38, b 39, b 40, b 41, b 42, b 43, b 44, b 45, b 46, b 47, b 48, b 49, b 50, b 51, b 52, b 53, b 54, b 55, b 56, b 57, b 58, b 59, b 60, b 61, b 62, b 63, b 64, u7.1 65, u7.1 66, u7.1 67, u7.1 68, u7.1 69].getD k 0) (38 + 3 * i))) 33 (n := 6) rfl (fun i hi => by rcases (show i = 0 ∨ i = 1 ∨ i = 2 ∨ i = 3 ∨ i = 4 ∨ i = 5 by omega) with rfl | rfl | rfl | rfl | rfl | rfl <;> rfl) rfl ?_
  refine r_refs (f' := fun i => some ((fun k => [h0, u1.1 1, u1.1 2, u1.1 3, u1.1 4, u1.1 5, u1.1 6, u1.1 7, u2.1 1, u2.1 2, u2.1 3, u2.1 4, u2.1 5, u2.1 6, u2.1 7, u3.1 1, u3.1 2, u3.1 3, u3.1 4, u3.1 5, u3.1 6, u3.1 7, q2, u4.1 23, u4.1 24, u5.1 25, u5.1 26, u5.1 27, u5.1 28, u5.1 29, u5.1 30, u5.1 31, b 32, b 33, b 34, b 35, b 36, b 37, b 38, b 39, b 40, b 41, b 42, b 43, b 44, b 45, b 46, b 47, b 48, b 49, b 50, b 51, b 52, b 53, b 54, b 55, b 56, b 57, b 58, b 59, b 60, b 61, b 62, b 63, b 64, u7.1 65, u7.1 66, u7.1 67, u7.1 68, u7.1 69].getD k 0) (57 + 1 * i))) 34 (n := 2) rfl (fun i hi => by rcases (show i = 0 ∨ i = 1 by omega) with rfl | rfl <;> rfl) rfl ?_
  refine r_refs (f' := fun i => some ((fun k => [h0, u1.1 1, u1.1 2, u1.1 3, u1.1 4, u1.1 5, u1.1 6, u1.1 7, u2.1 1, u2.1 2, u2.1 3, u2.1 4, u2.1 5, u2.1 6, u2.1 7, u3.1 1, u3.1 2, u3.1 3, u3.1 4, u3.1 5, u3.1 6, u3.1 7, q2, u4.1 23, u4.1 24, u5.1 25, u5.1 26, u5.1 27, u5.1 28, u5.1 29, u5.1 30, u5.1 31, b 32, b 33, b 34, b 35, b 36, b 37, b 38, b 39, b 40, b 41, b 42, b 43, b 44, b 45, b 46, b 47, b 48, b 49, b 50, b 51, b 52, b 53, b 54, b 55, b 56, b 57, b 58, b 59, b 60, b 61, b 62, b 63, b 64, u7.1 65, u7.1 66, u7.1 67, u7.1 68, u7.1 69].getD k 0) (60 + 1 * i))) 37 (n := 2) rfl (fun i hi => by rcases (show i = 0 ∨ i = 1 by omega) with rfl | rfl <;> rfl) rfl ?_
  refine r_vret B hr hlk ((fun k => [h0, u1.1 1, u1.1 2, u1.1 3, u1.1 4, u1.1 5, u1.1 6, u1.1 7, u2.1 1, u2.1 2, u2.1 3, u2.1 4, u2.1 5, u2.1 6, u2.1 7, u3.1 1, u3.1 2, u3.1 3, u3.1 4, u3.1 5, u3.1 6, u3.1 7, q2, u4.1 23, u4.1 24, u5.1 25, u5.1 26, u5.1 27, u5.1 28, u5.1 29, u5.1 30, u5.1 31, b 32, b 33, b 34, b 35, b 36, b 37, b 38, b 39, b 40, b 41, b 42, b 43, b 44, b 45, b 46, b 47, b 48, b 49, b 50, b 51, b 52, b 53, b 54, b 55, b 56, b 57, b 58, b 59, b 60, b 61, b 62, b 63, b 64, u7.1 65, u7.1 66, u7.1 67, u7.1 68, u7.1 69].getD k 0), (fun k => ([(fun _ => 0), (upr (fun k => if k < 8 then u1.2 k else u5.2 k) 27 g) 1, (upr (fun k => if k < 8 then u1.2 k else u5.2 k) 27 g) 2, (upr (fun k => if k < 8 then u1.2 k else u5.2 k) 27 g) 3, (upr (fun k => if k < 8 then u1.2 k else u5.2 k) 27 g) 4, (upr (fun k => if k < 8 then u1.2 k else u5.2 k) 27 g) 5, (upr (fun k => if k < 8 then u1.2 k else u5.2 k) 27 g) 6, (upr (fun k => if k < 8 then u1.2 k else u5.2 k) 27 g) 7, u2.2 1, u2.2 2, u2.2 3, u2.2 4, u2.2 5, u2.2 6, u2.2 7, u3.2 1, u3.2 2, u3.2 3, u3.2 4, u3.2 5, u3.2 6, u3.2 7, (fun _ => 0), u4.2 23, u4.2 24, (upr (fun k => if k < 8 then u1.2 k else u5.2 k) 27 g) 25, (upr (fun k => if k < 8 then u1.2 k else u5.2 k) 27 g) 26, (upr (fun k => if k < 8 then u1.2 k else u5.2 k) 27 g) 27, (upr (fun k => if k < 8 then u1.2 k else u5.2 k) 27 g) 28, (upr (fun k => if k < 8 then u1.2 k else u5.2 k) 27 g) 29, (upr (fun k => if k < 8 then u1.2 k else u5.2 k) 27 g) 30, (upr (fun k => if k < 8 then u1.2 k else u5.2 k) 27 g) 31, sP 32, sP 33, sP 34, sP 35, sP 36, sP 37, sP 38, sP 39, sP 40, sP 41, sP 42, sP 43, sP 44, sP 45, sP 46, sP 47, sP 48, sP 49, sP 50, sP 51, sP 52, sP 53, sP 54, sP 55, sP 56, sP 57, sP 58, sP 59, sP 60, sP 61, sP 62, sP 63, sP 64, u7.2 65, u7.2 66, u7.2 67, u7.2 68, u7.2 69] : List (Nat → Int32)).getD k (fun _ => 0))) rfl ⟨rfl, rfl, hu1.1, hu1.2.1, hu1.2.2, g2, hu6.1, hu6.2.1, ?_, ?_⟩ (Nat.le_of_ble_eq_true rfl) (Nat.le_of_ble_eq_true rfl) dX7_init_112
  · intro q hq
    have := hu6.2.2.1 q hq
    rcases (show q = 0 ∨ q = 1 ∨ q = 2 ∨ q = 3 ∨ q = 4 ∨ q = 5 by omega) with rfl | rfl | rfl | rfl | rfl | rfl <;> exact this
  · intro q v hq hv
    have := hu6.2.2.2 q v hq hv
    rcases (show q = 0 ∨ q = 1 ∨ q = 2 ∨ q = 3 ∨ q = 4 ∨ q = 5 by omega) with rfl | rfl | rfl | rfl | rfl | rfl <;> exact this
