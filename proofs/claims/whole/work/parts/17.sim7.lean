section SM
variable {p : Program} {l : Launch} {e : Env} {s : State} {m : MethodId} {args : Array Value} {below : List Frame} {meth : Method} {c : Code} {D : va_G} {cy : Nat → ClassId} {ad : Nat → Nat} {A : Nat → Prop} {L : List Nat}
-- X8_seen
def F_X8_seen (v1 : Int32) (v2 : Int32) (v3 : Int32) (st : St) : Option (Int32) :=
  (if v2 = (2 : Int32) then ck (inb v1 10) (some (st 72 v1.toNatClampNeg)) else ck (inb v1 10) ((if (st 71 v1.toNatClampNeg) = 0 then (if v2 = 0 then ck (inb v1 10) (some (st 73 v1.toNatClampNeg)) else some (-6 : Int32)) else lt (fun (x21 : Int32) => (if x21 = v3 then ck (inb v1 10) (some (st 74 v1.toNatClampNeg)) else ck (inb v1 10) (some (st 73 v1.toNatClampNeg)))) (fun (j22 : Int32 → Option (Int32)) => (if v2 = 0 then j22 (1 : Int32) else j22 (0 : Int32))))))
set_option maxHeartbeats 4000000 in
set_option maxRecDepth 100000 in
theorem ct_X8_seen (hL : ∀ k, prF k = true → k ∈ L) {v1 : Int32} {v2 : Int32} {v3 : Int32} {st : St} {r' : Int32} (h : F_X8_seen v1 v2 v3 st = some r') : Ct l D cy ad A L yX8_seen cX8_seen 4 (some .int) 1 [.ref (ad 70), .int v1, .int v2, .int v3] st (some (.int r')) st := by
  unfold F_X8_seen at h
  refine ct_of (own := RX8) (by decide) rfl (Nat.le_of_ble_eq_true rfl) ?_
  intro p e s m args below meth c C hr hlk
  refine g_sub (lv2 := [(0, .ref (ad 70)), (1, .int v1), (2, .int v2), (3, .int v3)]) [0, 1, 2, 3] rfl ?_
  refine g_iload_n C dX8_seen_0 rfl 2 rfl ?_
  refine g_iconst (v := (2 : Int32)) C dX8_seen_1 (by decide) ?_
  refine g_icmp_ne (tgt := 12) C dX8_seen_2 (by decide) h ?_ ?_
  · clear h; intro hc2 h
    refine g_aload_n C dX8_seen_12 rfl 0 rfl ?_
    refine g_getR (k2 := 71) C ok8 dX8_seen_13 (hL 70 rfl) rfl 1 (by decide) lk_X8_7 rfl rfl ?_
    refine g_iload_n C dX8_seen_16 rfl 1 rfl ?_
    refine g_iald C dX8_seen_17 (hL 71 rfl) rfl rfl h ?_
    clear h; intro h
    refine g_if_ne (tgt := 37) C dX8_seen_18 (by decide) h ?_ ?_
    · clear h; intro hc18 h
      refine g_iload_n C dX8_seen_37 rfl 2 rfl ?_
      replace h := lt_ex h
      obtain ⟨j22, ej22, h⟩ := h
      have hj22 : ∀ (x21 : Int32), j22 x21 = some r' → Gm p l e (rmD 1) s m args below meth c D cy ad A L 4 0 0 (MQ below (QG D cy ad A L (some (.int r')) st) args s 0 0 A) 46 [(0, .ref (ad 70)), (1, .int v1), (3, .int v3)] [.int x21] st := by
        intro x21 h
        rw [ej22] at h
        dsimp only at h
        refine g_iload_n C dX8_seen_46 rfl 2 rfl ?_
        refine g_icmp_eq (tgt := 59) C dX8_seen_47 (by decide) h ?_ ?_
        · clear h; intro hc47 h
          refine g_aload_n C dX8_seen_59 rfl 0 rfl ?_
          refine g_getR (k2 := 74) C ok8 dX8_seen_60 (hL 70 rfl) rfl 4 (by decide) lk_X8_19 rfl rfl ?_
          refine g_iload_n C dX8_seen_63 rfl 1 rfl ?_
          refine g_iald C dX8_seen_64 (hL 74 rfl) rfl rfl h ?_
          clear h; intro h
          exact g_iretP C hr hlk dX8_seen_65 h
        · clear h; intro hc47 h
          refine g_aload_n C dX8_seen_50 rfl 0 rfl ?_
          refine g_getR (k2 := 73) C ok8 dX8_seen_51 (hL 70 rfl) rfl 3 (by decide) lk_X8_16 rfl rfl ?_
          refine g_iload_n C dX8_seen_54 rfl 1 rfl ?_
          refine g_iald C dX8_seen_55 (hL 73 rfl) rfl rfl h ?_
          clear h; intro h
          refine g_goto (tgt := 65) C dX8_seen_56 (by decide) ?_
          exact g_iretP C hr hlk dX8_seen_65 h
      refine g_if_ne (tgt := 45) C dX8_seen_38 (by decide) h ?_ ?_
      · clear h; intro hc38 h
        refine g_iconst (v := (0 : Int32)) C dX8_seen_45 (by decide) ?_
        refine g_sub (lv2 := [(0, .ref (ad 70)), (1, .int v1), (3, .int v3)]) [0, 1, 3] rfl ?_
        exact hj22 _ h
      · clear h; intro hc38 h
        refine g_iconst (v := (1 : Int32)) C dX8_seen_41 (by decide) ?_
        refine g_goto (tgt := 46) C dX8_seen_42 (by decide) ?_
        refine g_sub (lv2 := [(0, .ref (ad 70)), (1, .int v1), (3, .int v3)]) [0, 1, 3] rfl ?_
        exact hj22 _ h
    · clear h; intro hc18 h
      refine g_iload_n C dX8_seen_21 rfl 2 rfl ?_
      refine g_if_ne (tgt := 34) C dX8_seen_22 (by decide) h ?_ ?_
      · clear h; intro hc22 h
        refine g_bipush (v := (-6 : Int32)) C dX8_seen_34 (by decide) ?_
        exact g_iretP C hr hlk dX8_seen_36 h
      · clear h; intro hc22 h
        refine g_aload_n C dX8_seen_25 rfl 0 rfl ?_
        refine g_getR (k2 := 73) C ok8 dX8_seen_26 (hL 70 rfl) rfl 3 (by decide) lk_X8_16 rfl rfl ?_
        refine g_iload_n C dX8_seen_29 rfl 1 rfl ?_
        refine g_iald C dX8_seen_30 (hL 73 rfl) rfl rfl h ?_
        clear h; intro h
        refine g_goto (tgt := 36) C dX8_seen_31 (by decide) ?_
        exact g_iretP C hr hlk dX8_seen_36 h
  · clear h; intro hc2 h
    refine g_aload_n C dX8_seen_5 rfl 0 rfl ?_
    refine g_getR (k2 := 72) C ok8 dX8_seen_6 (hL 70 rfl) rfl 2 (by decide) lk_X8_13 rfl rfl ?_
    refine g_iload_n C dX8_seen_9 rfl 1 rfl ?_
    refine g_iald C dX8_seen_10 (hL 72 rfl) rfl rfl h ?_
    clear h; intro h
    exact g_iretP C hr hlk dX8_seen_11 h
-- X8_layLine
def lpB_X8_layLine_4 (v1 : Int32) (self : Int32 → Int32 → St → Option (Int32 × St)) (v2 : Int32) (v3 : Int32) (st : St) : Option (Int32 × St) :=
  (if ((3 : Int32) * (st 70 0)) ≤ v3 then some (v2, st) else ck (decide ((3 : Int32) ≠ 0)) (ck (decide ((3 : Int32) ≠ 0)) (ck (decide ((3 : Int32) ≠ 0)) (bs (F_X8_has v1 (v3 / (3 : Int32))) (fun (r23 : Int32) => bs (F_X8_seen (v3 / (3 : Int32)) (v3 - v3 / (3 : Int32) * (3 : Int32)) r23 st) (fun (r24 : Int32) => lt r24 (fun (v25 : Int32) => (if v25 < 0 then lt (v3 + (1 : Int32)) (fun (v26 : Int32) => self v2 v26 st) else ck (inb v2 30) (lt (up st 79 v2.toNatClampNeg v25) (fun (s27 : St) => lt (v2 + (1 : Int32)) (fun (v28 : Int32) => lt (v3 + (1 : Int32)) (fun (v29 : Int32) => self v28 v29 s27))))))))))))
def lp_X8_layLine_4 (v1 : Int32) : Nat → Int32 → Int32 → St → Option (Int32 × St) := itf (lpB_X8_layLine_4 v1) (fun _ _ _ => none)
def F_X8_layLine (N : Nat) (v1 : Int32) (st : St) : Option (Int32 × St) :=
  lt (0 : Int32) (fun (v21 : Int32) => lt (0 : Int32) (fun (v22 : Int32) => lp_X8_layLine_4 v1  N v21 v22 st))
set_option maxHeartbeats 4000000 in
set_option maxRecDepth 100000 in
theorem wlp_X8_layLine_4 (C : Cx p s m args c cX8_layLine RX8 5 D cy ad A L) (hr : meth.sig.returnType = (some .int)) (hlk : meth.locks = false) (hL : ∀ k, prF k = true → k ∈ L) {N : Nat} {v1 : Int32} {r' : Int32} {st' : St} : ∀ (n : Nat) (v2 : Int32) (v3 : Int32) (st : St), lp_X8_layLine_4 v1 n v2 v3 st = some (r', st') → Gm p l e (rmD 2) s m args below meth c D cy ad A L 5 0 0 (MQ below (QG D cy ad A L (some (.int r')) st') args s 0 0 A) 4 [(0, .ref (ad 70)), (1, .int v1), (2, .int v2), (3, .int v3)] [] st := by
  intro n
  induction n with
  | zero => intro v2 v3 st h; cases h
  | succ n ih =>
    intro v2 v3 st h
    change lpB_X8_layLine_4 v1 (lp_X8_layLine_4 v1 n) v2 v3 st = some _ at h
    unfold lpB_X8_layLine_4 at h
    refine g_iload_n C dX8_layLine_4 rfl 3 rfl ?_
    refine g_iconst (v := (3 : Int32)) C dX8_layLine_5 (by decide) ?_
    refine g_aload_n C dX8_layLine_6 rfl 0 rfl ?_
    refine g_getI C ok8 dX8_layLine_7 (hL 70 rfl) rfl 0 (by decide) lk_X8_87 rfl ?_
    refine g_imul C dX8_layLine_10 ?_
    refine g_icmp_ge (tgt := 55) C dX8_layLine_11 (by decide) h ?_ ?_
    · clear h; intro hc11 h
      refine g_iload_n C dX8_layLine_55 rfl 2 rfl ?_
      exact g_iret C hr hlk dX8_layLine_56 h
    · clear h; intro hc11 h
      refine g_aload_n C dX8_layLine_14 rfl 0 rfl ?_
      refine g_iload_n C dX8_layLine_15 rfl 3 rfl ?_
      refine g_iconst (v := (3 : Int32)) C dX8_layLine_16 (by decide) ?_
      refine g_idiv C dX8_layLine_17 h ?_
      clear h; intro h
      refine g_iload_n C dX8_layLine_18 rfl 3 rfl ?_
      refine g_iconst (v := (3 : Int32)) C dX8_layLine_19 (by decide) ?_
      refine g_irem C dX8_layLine_20 h ?_
      clear h; intro h
      refine g_iload_n C dX8_layLine_21 rfl 1 rfl ?_
      refine g_iload_n C dX8_layLine_22 rfl 3 rfl ?_
      refine g_iconst (v := (3 : Int32)) C dX8_layLine_23 (by decide) ?_
      refine g_idiv C dX8_layLine_24 h ?_
      clear h; intro h
      replace h := bs_some h
      obtain ⟨r23, h1, h⟩ := h
      refine g_cS (As := [.int v1, .int (v3 / (3 : Int32))]) (rest := [.int (v3 - v3 / (3 : Int32) * (3 : Int32)), .int (v3 / (3 : Int32)), .ref (ad 70)]) (stk2 := [.int r23, .int (v3 - v3 / (3 : Int32) * (3 : Int32)), .int (v3 / (3 : Int32)), .ref (ad 70)]) C mf_X8_has lk_X8_103 sm_X8_has dX8_layLine_25 rfl rfl rfl ⟨Nat.le_of_ble_eq_true rfl, Nat.le_of_ble_eq_true rfl⟩ (Nat.le_of_ble_eq_true rfl) ⟨Nat.le_refl 0, Nat.le_refl 0⟩ (ct_X8_has hL h1) ?_
      replace h := bs_some h
      obtain ⟨r24, h1, h⟩ := h
      refine g_cV (As := [.int (v3 / (3 : Int32)), .int (v3 - v3 / (3 : Int32) * (3 : Int32)), .int r23]) (rest := []) (stk2 := [.int r24]) C mf_X8_seen ok8 rfl lk_X8_107 in_X8_seen se_X8_seen dX8_layLine_28 (hL 70 rfl) rfl rfl rfl rfl ⟨Nat.le_of_ble_eq_true rfl, Nat.le_of_ble_eq_true rfl⟩ (Nat.le_of_ble_eq_true rfl) ⟨Nat.le_refl 0, Nat.le_refl 0⟩ (ct_X8_seen hL h1) ?_
      refine g_istore (lv' := fun y => [(4, .int y), (0, .ref (ad 70)), (1, .int v1), (2, .int v2), (3, .int v3)]) C dX8_layLine_31 (by decide) (fun y => rfl) h ?_
      clear h; intro v25 h
      refine g_iload C dX8_layLine_33 0 rfl ?_
      refine g_if_lt (tgt := 49) C dX8_layLine_35 (by decide) h ?_ ?_
      · clear h; intro hc35 h
        refine g_iinc (lv' := fun y => [(3, .int y), (4, .int v25), (0, .ref (ad 70)), (1, .int v1), (2, .int v2)]) C dX8_layLine_49 4 rfl rfl (by decide) (fun y => rfl) h ?_
        clear h; intro v26 h
        refine g_goto (tgt := 4) C dX8_layLine_52 (by decide) ?_
        refine g_sub (lv2 := [(0, .ref (ad 70)), (1, .int v1), (2, .int v2), (3, .int v26)]) [2, 3, 4, 0] rfl ?_
        exact ih _ _ _ h
      · clear h; intro hc35 h
        refine g_aload_n C dX8_layLine_38 rfl 1 rfl ?_
        refine g_getR (k2 := 79) C ok8 dX8_layLine_39 (hL 70 rfl) rfl 9 (by decide) lk_X8_35 rfl rfl ?_
        refine g_iload_n C dX8_layLine_42 rfl 3 rfl ?_
        refine g_iload C dX8_layLine_43 0 rfl ?_
        refine g_iast C dX8_layLine_45 (hL 79 rfl) rfl rfl h ?_
        clear h; intro s27 h
        refine g_iinc (lv' := fun y => [(2, .int y), (4, .int v25), (0, .ref (ad 70)), (1, .int v1), (3, .int v3)]) C dX8_layLine_46 3 rfl rfl (by decide) (fun y => rfl) h ?_
        clear h; intro v28 h
        refine g_iinc (lv' := fun y => [(3, .int y), (2, .int v28), (4, .int v25), (0, .ref (ad 70)), (1, .int v1)]) C dX8_layLine_49 4 rfl rfl (by decide) (fun y => rfl) h ?_
        clear h; intro v29 h
        refine g_goto (tgt := 4) C dX8_layLine_52 (by decide) ?_
        refine g_sub (lv2 := [(0, .ref (ad 70)), (1, .int v1), (2, .int v28), (3, .int v29)]) [3, 4, 1, 0] rfl ?_
        exact ih _ _ _ h
set_option maxHeartbeats 4000000 in
set_option maxRecDepth 100000 in
theorem ct_X8_layLine {N : Nat} (hL : ∀ k, prF k = true → k ∈ L) {v1 : Int32} {st st' : St} {r' : Int32} (h : F_X8_layLine N v1 st = some (r', st')) : Ct l D cy ad A L yX8_layLine cX8_layLine 5 (some .int) 2 [.ref (ad 70), .int v1] st (some (.int r')) st' := by
  unfold F_X8_layLine at h
  refine ct_of (own := RX8) (by decide) rfl (Nat.le_of_ble_eq_true rfl) ?_
  intro p e s m args below meth c C hr hlk
  refine g_sub (lv2 := [(0, .ref (ad 70)), (1, .int v1)]) [0, 1] rfl ?_
  refine g_iconst (v := (0 : Int32)) C dX8_layLine_0 (by decide) ?_
  refine g_istore_n (lv' := fun y => [(2, .int y), (0, .ref (ad 70)), (1, .int v1)]) C dX8_layLine_1 rfl (by decide) (fun y => rfl) h ?_
  clear h; intro v21 h
  refine g_iconst (v := (0 : Int32)) C dX8_layLine_2 (by decide) ?_
  refine g_istore_n (lv' := fun y => [(3, .int y), (2, .int v21), (0, .ref (ad 70)), (1, .int v1)]) C dX8_layLine_3 rfl (by decide) (fun y => rfl) h ?_
  clear h; intro v22 h
  refine g_sub (lv2 := [(0, .ref (ad 70)), (1, .int v1), (2, .int v21), (3, .int v22)]) [2, 3, 1, 0] rfl ?_
  refine wlp_X8_layLine_4 (N := N) C hr hlk hL  _ _ _ _ h
-- X8_sight
def F_X8_sight (N : Nat) (v1 : Int32) (st : St) : Option (Int32 × St) :=
  bd (F_X8_layLine N (0 : Int32) st) (fun (r21 : Int32) (s22 : St) => bs (F_X8_in v1 (0 : Int32) (r21 - (1 : Int32))) (fun (r23 : Int32) => (if r23 = 0 then some ((-6 : Int32), s22) else ck (inb v1 30) (some ((s22 79 v1.toNatClampNeg), s22)))))
set_option maxHeartbeats 4000000 in
set_option maxRecDepth 100000 in
theorem ct_X8_sight {N : Nat} (hL : ∀ k, prF k = true → k ∈ L) {v1 : Int32} {st st' : St} {r' : Int32} (h : F_X8_sight N v1 st = some (r', st')) : Ct l D cy ad A L yX8_sight cX8_sight 2 (some .int) 3 [.ref (ad 70), .int v1] st (some (.int r')) st' := by
  unfold F_X8_sight at h
  refine ct_of (own := RX8) (by decide) rfl (Nat.le_of_ble_eq_true rfl) ?_
  intro p e s m args below meth c C hr hlk
  refine g_sub (lv2 := [(0, .ref (ad 70)), (1, .int v1)]) [0, 1] rfl ?_
  refine g_iload_n C dX8_sight_0 rfl 1 rfl ?_
  refine g_iconst (v := (0 : Int32)) C dX8_sight_1 (by decide) ?_
  refine g_aload_n C dX8_sight_2 rfl 0 rfl ?_
  refine g_iconst (v := (0 : Int32)) C dX8_sight_3 (by decide) ?_
  replace h := bd_some h
  obtain ⟨r21, s22, h1, h⟩ := h
  refine g_cV (As := [.int (0 : Int32)]) (rest := [.int (0 : Int32), .int v1]) (stk2 := [.int r21, .int (0 : Int32), .int v1]) C mf_X8_layLine ok8 rfl lk_X8_111 in_X8_layLine se_X8_layLine dX8_sight_4 (hL 70 rfl) rfl rfl rfl rfl ⟨Nat.le_of_ble_eq_true rfl, Nat.le_of_ble_eq_true rfl⟩ (Nat.le_of_ble_eq_true rfl) ⟨Nat.le_refl 0, Nat.le_refl 0⟩ (ct_X8_layLine hL h1) ?_
  refine g_iconst (v := (1 : Int32)) C dX8_sight_7 (by decide) ?_
  refine g_isub C dX8_sight_8 ?_
  replace h := bs_some h
  obtain ⟨r23, h1, h⟩ := h
  refine g_cS (As := [.int v1, .int (0 : Int32), .int (r21 - (1 : Int32))]) (rest := []) (stk2 := [.int r23]) C mf_X8_in lk_X8_83 sm_X8_in dX8_sight_9 rfl rfl rfl ⟨Nat.le_of_ble_eq_true rfl, Nat.le_of_ble_eq_true rfl⟩ (Nat.le_of_ble_eq_true rfl) ⟨Nat.le_refl 0, Nat.le_refl 0⟩ (ct_X8_in hL h1) ?_
  refine g_if_eq (tgt := 24) C dX8_sight_12 (by decide) h ?_ ?_
  · clear h; intro hc12 h
    refine g_bipush (v := (-6 : Int32)) C dX8_sight_24 (by decide) ?_
    exact g_iret C hr hlk dX8_sight_26 h
  · clear h; intro hc12 h
    refine g_aload_n C dX8_sight_15 rfl 0 rfl ?_
    refine g_getR (k2 := 79) C ok8 dX8_sight_16 (hL 70 rfl) rfl 9 (by decide) lk_X8_35 rfl rfl ?_
    refine g_iload_n C dX8_sight_19 rfl 1 rfl ?_
    refine g_iald C dX8_sight_20 (hL 79 rfl) rfl rfl h ?_
    clear h; intro h
    refine g_goto (tgt := 26) C dX8_sight_21 (by decide) ?_
    exact g_iret C hr hlk dX8_sight_26 h
-- X8_isAsked
def F_X8_isAsked (v0 : Int32) (v1 : Int32) : Option (Int32) :=
  bs (F_X8_in v0 (1 : Int32) (3 : Int32)) (fun (r21 : Int32) => lt (some (0 : Int32)) (fun (j22 : Option (Int32)) => (if r21 = 0 then j22 else bs (F_X8_in v1 (0 : Int32) (1 : Int32)) (fun (r23 : Int32) => (if r23 = 0 then j22 else some (1 : Int32))))))
set_option maxHeartbeats 4000000 in
set_option maxRecDepth 100000 in
theorem ct_X8_isAsked (hL : ∀ k, prF k = true → k ∈ L) {v0 : Int32} {v1 : Int32} {st : St} {r' : Int32} (h : F_X8_isAsked v0 v1 = some r') : Ct l D cy ad A L yX8_isAsked cX8_isAsked 2 (some .boolean) 2 [.int v0, .int v1] st (some (.int r')) st := by
  unfold F_X8_isAsked at h
  refine ct_of (own := RX8) (by decide) rfl (Nat.le_of_ble_eq_true rfl) ?_
  intro p e s m args below meth c C hr hlk
  refine g_sub (lv2 := [(0, .int v0), (1, .int v1)]) [0, 1] rfl ?_
  refine g_iload_n C dX8_isAsked_0 rfl 0 rfl ?_
  refine g_iconst (v := (1 : Int32)) C dX8_isAsked_1 (by decide) ?_
  refine g_iconst (v := (3 : Int32)) C dX8_isAsked_2 (by decide) ?_
  replace h := bs_some h
  obtain ⟨r21, h1, h⟩ := h
  refine g_cS (As := [.int v0, .int (1 : Int32), .int (3 : Int32)]) (rest := []) (stk2 := [.int r21]) C mf_X8_in lk_X8_83 sm_X8_in dX8_isAsked_3 rfl rfl rfl ⟨Nat.le_of_ble_eq_true rfl, Nat.le_of_ble_eq_true rfl⟩ (Nat.le_of_ble_eq_true rfl) ⟨Nat.le_refl 0, Nat.le_refl 0⟩ (ct_X8_in hL h1) ?_
  replace h := lt_ex h
  obtain ⟨j22, ej22, h⟩ := h
  have hj22 : j22 = some r' → Gm p l e (rmD 2) s m args below meth c D cy ad A L 2 0 0 (MQ below (QG D cy ad A L (some (.int r')) st) args s 0 0 A) 22 [] [] st := by
    intro h
    rw [ej22] at h
    skip
    refine g_iconst (v := (0 : Int32)) C dX8_isAsked_22 (by decide) ?_
    exact g_zretLP C hr hlk rfl dX8_isAsked_23 h
  refine g_if_eq (tgt := 22) C dX8_isAsked_6 (by decide) h ?_ ?_
  · clear h; intro hc6 h
    refine g_sub (lv2 := []) [] rfl ?_
    exact hj22  h
  · clear h; intro hc6 h
    refine g_iload_n C dX8_isAsked_9 rfl 1 rfl ?_
    refine g_iconst (v := (0 : Int32)) C dX8_isAsked_10 (by decide) ?_
    refine g_iconst (v := (1 : Int32)) C dX8_isAsked_11 (by decide) ?_
    replace h := bs_some h
    obtain ⟨r23, h1, h⟩ := h
    refine g_cS (As := [.int v1, .int (0 : Int32), .int (1 : Int32)]) (rest := []) (stk2 := [.int r23]) C mf_X8_in lk_X8_83 sm_X8_in dX8_isAsked_12 rfl rfl rfl ⟨Nat.le_of_ble_eq_true rfl, Nat.le_of_ble_eq_true rfl⟩ (Nat.le_of_ble_eq_true rfl) ⟨Nat.le_refl 0, Nat.le_refl 0⟩ (ct_X8_in hL h1) ?_
    refine g_if_eq (tgt := 22) C dX8_isAsked_15 (by decide) h ?_ ?_
    · clear h; intro hc15 h
      refine g_sub (lv2 := []) [] rfl ?_
      exact hj22  h
    · clear h; intro hc15 h
      refine g_iconst (v := (1 : Int32)) C dX8_isAsked_18 (by decide) ?_
      refine g_goto (tgt := 23) C dX8_isAsked_19 (by decide) ?_
      exact g_zretLP C hr hlk rfl dX8_isAsked_23 h
-- X8_usedOnes
def lpB_X8_usedOnes_10 (v2 : Int32) (st : St) (self : Int32 → Int32 → Option (Int32 × St)) (v1 : Int32) (v3 : Int32) : Option (Int32 × St) :=
  (if v2 ≤ v3 then some (v1, st) else ck (inb v3 30) (lt (v1 ||| ((1 : Int32) <<< ((st 79 v3.toNatClampNeg) &&& 31))) (fun (v26 : Int32) => lt (v3 + (1 : Int32)) (fun (v27 : Int32) => self v26 v27))))
def lp_X8_usedOnes_10 (v2 : Int32) (st : St) : Nat → Int32 → Int32 → Option (Int32 × St) := itf (lpB_X8_usedOnes_10 v2 st) (fun _ _ => none)
def F_X8_usedOnes (N : Nat) (st : St) : Option (Int32 × St) :=
  lt (0 : Int32) (fun (v21 : Int32) => bd (F_X8_layLine N (0 : Int32) st) (fun (r22 : Int32) (s23 : St) => lt r22 (fun (v24 : Int32) => lt (0 : Int32) (fun (v25 : Int32) => lp_X8_usedOnes_10 v24 s23  N v21 v25))))
set_option maxHeartbeats 4000000 in
set_option maxRecDepth 100000 in
theorem wlp_X8_usedOnes_10 (C : Cx p s m args c cX8_usedOnes RX8 4 D cy ad A L) (hr : meth.sig.returnType = (some .int)) (hlk : meth.locks = false) (hL : ∀ k, prF k = true → k ∈ L) {N : Nat} {v2 : Int32} {r' : Int32} {st' : St} {st : St} : ∀ (n : Nat) (v1 : Int32) (v3 : Int32), lp_X8_usedOnes_10 v2 st n v1 v3 = some (r', st') → Gm p l e (rmD 3) s m args below meth c D cy ad A L 4 0 0 (MQ below (QG D cy ad A L (some (.int r')) st') args s 0 0 A) 10 [(0, .ref (ad 70)), (1, .int v1), (2, .int v2), (3, .int v3)] [] st := by
  intro n
  induction n with
  | zero => intro v1 v3 h; cases h
  | succ n ih =>
    intro v1 v3 h
    change lpB_X8_usedOnes_10 v2 st (lp_X8_usedOnes_10 v2 st n) v1 v3 = some _ at h
    unfold lpB_X8_usedOnes_10 at h
    refine g_iload_n C dX8_usedOnes_10 rfl 3 rfl ?_
    refine g_iload_n C dX8_usedOnes_11 rfl 2 rfl ?_
    refine g_icmp_ge (tgt := 32) C dX8_usedOnes_12 (by decide) h ?_ ?_
    · clear h; intro hc12 h
      refine g_iload_n C dX8_usedOnes_32 rfl 1 rfl ?_
      exact g_iret C hr hlk dX8_usedOnes_33 h
    · clear h; intro hc12 h
      refine g_iload_n C dX8_usedOnes_15 rfl 1 rfl ?_
      refine g_iconst (v := (1 : Int32)) C dX8_usedOnes_16 (by decide) ?_
      refine g_aload_n C dX8_usedOnes_17 rfl 0 rfl ?_
      refine g_getR (k2 := 79) C ok8 dX8_usedOnes_18 (hL 70 rfl) rfl 9 (by decide) lk_X8_35 rfl rfl ?_
      refine g_iload_n C dX8_usedOnes_21 rfl 3 rfl ?_
      refine g_iald C dX8_usedOnes_22 (hL 79 rfl) rfl rfl h ?_
      clear h; intro h
      refine g_ishl C dX8_usedOnes_23 ?_
      refine g_ior C dX8_usedOnes_24 ?_
      refine g_istore_n (lv' := fun y => [(1, .int y), (0, .ref (ad 70)), (2, .int v2), (3, .int v3)]) C dX8_usedOnes_25 rfl (by decide) (fun y => rfl) h ?_
      clear h; intro v26 h
      refine g_iinc (lv' := fun y => [(3, .int y), (1, .int v26), (0, .ref (ad 70)), (2, .int v2)]) C dX8_usedOnes_26 3 rfl rfl (by decide) (fun y => rfl) h ?_
      clear h; intro v27 h
      refine g_goto (tgt := 10) C dX8_usedOnes_29 (by decide) ?_
      refine g_sub (lv2 := [(0, .ref (ad 70)), (1, .int v26), (2, .int v2), (3, .int v27)]) [2, 1, 3, 0] rfl ?_
      exact ih _ _ h
set_option maxHeartbeats 4000000 in
set_option maxRecDepth 100000 in
theorem ct_X8_usedOnes {N : Nat} (hL : ∀ k, prF k = true → k ∈ L) {st st' : St} {r' : Int32} (h : F_X8_usedOnes N st = some (r', st')) : Ct l D cy ad A L yX8_usedOnes cX8_usedOnes 4 (some .int) 3 [.ref (ad 70)] st (some (.int r')) st' := by
  unfold F_X8_usedOnes at h
  refine ct_of (own := RX8) (by decide) rfl (Nat.le_of_ble_eq_true rfl) ?_
  intro p e s m args below meth c C hr hlk
  refine g_sub (lv2 := [(0, .ref (ad 70))]) [0] rfl ?_
  refine g_iconst (v := (0 : Int32)) C dX8_usedOnes_0 (by decide) ?_
  refine g_istore_n (lv' := fun y => [(1, .int y), (0, .ref (ad 70))]) C dX8_usedOnes_1 rfl (by decide) (fun y => rfl) h ?_
  clear h; intro v21 h
  refine g_aload_n C dX8_usedOnes_2 rfl 1 rfl ?_
  refine g_iconst (v := (0 : Int32)) C dX8_usedOnes_3 (by decide) ?_
  replace h := bd_some h
  obtain ⟨r22, s23, h1, h⟩ := h
  refine g_cV (As := [.int (0 : Int32)]) (rest := []) (stk2 := [.int r22]) C mf_X8_layLine ok8 rfl lk_X8_111 in_X8_layLine se_X8_layLine dX8_usedOnes_4 (hL 70 rfl) rfl rfl rfl rfl ⟨Nat.le_of_ble_eq_true rfl, Nat.le_of_ble_eq_true rfl⟩ (Nat.le_of_ble_eq_true rfl) ⟨Nat.le_refl 0, Nat.le_refl 0⟩ (ct_X8_layLine hL h1) ?_
  refine g_istore_n (lv' := fun y => [(2, .int y), (1, .int v21), (0, .ref (ad 70))]) C dX8_usedOnes_7 rfl (by decide) (fun y => rfl) h ?_
  clear h; intro v24 h
  refine g_iconst (v := (0 : Int32)) C dX8_usedOnes_8 (by decide) ?_
  refine g_istore_n (lv' := fun y => [(3, .int y), (2, .int v24), (1, .int v21), (0, .ref (ad 70))]) C dX8_usedOnes_9 rfl (by decide) (fun y => rfl) h ?_
  clear h; intro v25 h
  refine g_sub (lv2 := [(0, .ref (ad 70)), (1, .int v21), (2, .int v24), (3, .int v25)]) [3, 2, 1, 0] rfl ?_
  refine wlp_X8_usedOnes_10 (N := N) C hr hlk hL  _ _ _ h
-- X8_isFar
def F_X8_isFar (v1 : Int32) (v2 : Int32) (st : St) : Option (Int32) :=
  lt (fun (x21 : Int32) => lt x21 (fun (v23 : Int32) => lt (some (0 : Int32)) (fun (j24 : Option (Int32)) => (if v23 ≤ 0 then j24 else ck (inb v23 7) ((if (st 77 v23.toNatClampNeg) = 0 then some (1 : Int32) else j24)))))) (fun (j22 : Int32 → Option (Int32)) => (if v2 ≤ v1 then j22 (v1 - v2) else j22 (v2 - v1)))
set_option maxHeartbeats 4000000 in
set_option maxRecDepth 100000 in
theorem ct_X8_isFar (hL : ∀ k, prF k = true → k ∈ L) {v1 : Int32} {v2 : Int32} {st : St} {r' : Int32} (h : F_X8_isFar v1 v2 st = some r') : Ct l D cy ad A L yX8_isFar cX8_isFar 4 (some .boolean) 1 [.ref (ad 70), .int v1, .int v2] st (some (.int r')) st := by
  unfold F_X8_isFar at h
  refine ct_of (own := RX8) (by decide) rfl (Nat.le_of_ble_eq_true rfl) ?_
  intro p e s m args below meth c C hr hlk
  refine g_sub (lv2 := [(0, .ref (ad 70)), (1, .int v1), (2, .int v2)]) [0, 1, 2] rfl ?_
  refine g_iload_n C dX8_isFar_0 rfl 1 rfl ?_
  refine g_iload_n C dX8_isFar_1 rfl 2 rfl ?_
  replace h := lt_ex h
  obtain ⟨j22, ej22, h⟩ := h
  have hj22 : ∀ (x21 : Int32), j22 x21 = some r' → Gm p l e (rmD 1) s m args below meth c D cy ad A L 4 0 0 (MQ below (QG D cy ad A L (some (.int r')) st) args s 0 0 A) 14 [(0, .ref (ad 70))] [.int x21] st := by
    intro x21 h
    rw [ej22] at h
    dsimp only at h
    refine g_istore_n (lv' := fun y => [(3, .int y), (0, .ref (ad 70))]) C dX8_isFar_14 rfl (by decide) (fun y => rfl) h ?_
    clear h; intro v23 h
    refine g_iload_n C dX8_isFar_15 rfl 0 rfl ?_
    replace h := lt_ex h
    obtain ⟨j24, ej24, h⟩ := h
    have hj24 : j24 = some r' → Gm p l e (rmD 1) s m args below meth c D cy ad A L 4 0 0 (MQ below (QG D cy ad A L (some (.int r')) st) args s 0 0 A) 32 [] [] st := by
      intro h
      rw [ej24] at h
      skip
      refine g_iconst (v := (0 : Int32)) C dX8_isFar_32 (by decide) ?_
      exact g_zretLP C hr hlk rfl dX8_isFar_33 h
    refine g_if_le (tgt := 32) C dX8_isFar_16 (by decide) h ?_ ?_
    · clear h; intro hc16 h
      refine g_sub (lv2 := []) [] rfl ?_
      exact hj24  h
    · clear h; intro hc16 h
      refine g_aload_n C dX8_isFar_19 rfl 1 rfl ?_
      refine g_getR (k2 := 77) C ok8 dX8_isFar_20 (hL 70 rfl) rfl 7 (by decide) lk_X8_28 rfl rfl ?_
      refine g_iload_n C dX8_isFar_23 rfl 0 rfl ?_
      refine g_zald C dX8_isFar_24 (hL 77 rfl) rfl rfl h ?_
      clear h; intro h
      refine g_if_ne (tgt := 32) C dX8_isFar_25 (by decide) h ?_ ?_
      · clear h; intro hc25 h
        refine g_sub (lv2 := []) [] rfl ?_
        exact hj24  h
      · clear h; intro hc25 h
        refine g_iconst (v := (1 : Int32)) C dX8_isFar_28 (by decide) ?_
        refine g_goto (tgt := 33) C dX8_isFar_29 (by decide) ?_
        exact g_zretLP C hr hlk rfl dX8_isFar_33 h
  refine g_icmp_ge (tgt := 11) C dX8_isFar_2 (by decide) h ?_ ?_
  · clear h; intro hc2 h
    refine g_iload_n C dX8_isFar_11 rfl 1 rfl ?_
    refine g_iload_n C dX8_isFar_12 rfl 2 rfl ?_
    refine g_isub C dX8_isFar_13 ?_
    refine g_sub (lv2 := [(0, .ref (ad 70))]) [0] rfl ?_
    exact hj22 _ h
  · clear h; intro hc2 h
    refine g_iload_n C dX8_isFar_5 rfl 2 rfl ?_
    refine g_iload_n C dX8_isFar_6 rfl 1 rfl ?_
    refine g_isub C dX8_isFar_7 ?_
    refine g_goto (tgt := 14) C dX8_isFar_8 (by decide) ?_
    refine g_sub (lv2 := [(0, .ref (ad 70))]) [0] rfl ?_
    exact hj22 _ h
-- X8_costOf
def lpB_X8_costOf_12 (v1 : Int32) (v2 : Int32) (v3 : Int32) (self : Int32 → Int32 → St → Option (Int32 × St)) (v5 : Int32) (v6 : Int32) (st : St) : Option (Int32 × St) :=
  (if (3 : Int32) ≤ v6 then some (v5, st) else bs (F_X8_seen v1 v6 v2 st) (fun (r24 : Int32) => lt r24 (fun (v25 : Int32) => (if v25 < 0 then lt (v6 + (1 : Int32)) (fun (v26 : Int32) => self v5 v26 st) else bs (F_X8_has v3 v25) (fun (r27 : Int32) => (if r27 = 0 then lt (v6 + (1 : Int32)) (fun (v28 : Int32) => self v5 v28 st) else lt (fun (x29 : Int32) => lt (v5 + x29) (fun (v31 : Int32) => lt (up st 70 12 v25) (fun (s32 : St) => lt (v6 + (1 : Int32)) (fun (v33 : Int32) => self v31 v33 s32)))) (fun (j30 : Int32 → Option (Int32 × St)) => (if (st 70 12) = (7 : Int32) then j30 (1 : Int32) else ck (inb (st 70 12) 7) (ck (inb v25 7) (bs (F_X8_isFar (st 80 (st 70 12).toNatClampNeg) (st 80 v25.toNatClampNeg) st) (fun (r34 : Int32) => (if r34 = 0 then j30 (0 : Int32) else j30 (1 : Int32)))))))))))))
def lp_X8_costOf_12 (v1 : Int32) (v2 : Int32) (v3 : Int32) : Nat → Int32 → Int32 → St → Option (Int32 × St) := itf (lpB_X8_costOf_12 v1 v2 v3) (fun _ _ _ => none)
def F_X8_costOf (N : Nat) (v1 : Int32) (v2 : Int32) (v3 : Int32) (v4 : Int32) (st : St) : Option (Int32 × St) :=
  lt (0 : Int32) (fun (v21 : Int32) => lt (up st 70 12 v4) (fun (s22 : St) => lt (0 : Int32) (fun (v23 : Int32) => lp_X8_costOf_12 v1 v2 v3  N v21 v23 s22)))
set_option maxHeartbeats 4000000 in
set_option maxRecDepth 100000 in
theorem wlp_X8_costOf_12 (C : Cx p s m args c cX8_costOf RX8 8 D cy ad A L) (hr : meth.sig.returnType = (some .int)) (hlk : meth.locks = false) (hL : ∀ k, prF k = true → k ∈ L) {N : Nat} {v1 : Int32} {v2 : Int32} {v3 : Int32} {r' : Int32} {st' : St} : ∀ (n : Nat) (v5 : Int32) (v6 : Int32) (st : St), lp_X8_costOf_12 v1 v2 v3 n v5 v6 st = some (r', st') → Gm p l e (rmD 2) s m args below meth c D cy ad A L 8 0 0 (MQ below (QG D cy ad A L (some (.int r')) st') args s 0 0 A) 12 [(0, .ref (ad 70)), (1, .int v1), (2, .int v2), (3, .int v3), (5, .int v5), (6, .int v6)] [] st := by
  intro n
  induction n with
  | zero => intro v5 v6 st h; cases h
  | succ n ih =>
    intro v5 v6 st h
    change lpB_X8_costOf_12 v1 v2 v3 (lp_X8_costOf_12 v1 v2 v3 n) v5 v6 st = some _ at h
    unfold lpB_X8_costOf_12 at h
    refine g_iload C dX8_costOf_12 5 rfl ?_
    refine g_iconst (v := (3 : Int32)) C dX8_costOf_14 (by decide) ?_
    refine g_icmp_ge (tgt := 96) C dX8_costOf_15 (by decide) h ?_ ?_
    · clear h; intro hc15 h
      refine g_iload C dX8_costOf_96 4 rfl ?_
      exact g_iret C hr hlk dX8_costOf_98 h
    · clear h; intro hc15 h
      refine g_aload_n C dX8_costOf_18 rfl 0 rfl ?_
      refine g_iload_n C dX8_costOf_19 rfl 1 rfl ?_
      refine g_iload C dX8_costOf_20 5 rfl ?_
      refine g_iload_n C dX8_costOf_22 rfl 2 rfl ?_
      replace h := bs_some h
      obtain ⟨r24, h1, h⟩ := h
      refine g_cV (As := [.int v1, .int v6, .int v2]) (rest := []) (stk2 := [.int r24]) C mf_X8_seen ok8 rfl lk_X8_107 in_X8_seen se_X8_seen dX8_costOf_23 (hL 70 rfl) rfl rfl rfl rfl ⟨Nat.le_of_ble_eq_true rfl, Nat.le_of_ble_eq_true rfl⟩ (Nat.le_of_ble_eq_true rfl) ⟨Nat.le_refl 0, Nat.le_refl 0⟩ (ct_X8_seen hL h1) ?_
      refine g_istore (lv' := fun y => [(7, .int y), (0, .ref (ad 70)), (1, .int v1), (2, .int v2), (3, .int v3), (5, .int v5), (6, .int v6)]) C dX8_costOf_26 (by decide) (fun y => rfl) h ?_
      clear h; intro v25 h
      refine g_iload C dX8_costOf_28 0 rfl ?_
      refine g_if_lt (tgt := 90) C dX8_costOf_30 (by decide) h ?_ ?_
      · clear h; intro hc30 h
        refine g_iinc (lv' := fun y => [(6, .int y), (7, .int v25), (0, .ref (ad 70)), (1, .int v1), (2, .int v2), (3, .int v3), (5, .int v5)]) C dX8_costOf_90 6 rfl rfl (by decide) (fun y => rfl) h ?_
        clear h; intro v26 h
        refine g_goto (tgt := 12) C dX8_costOf_93 (by decide) ?_
        refine g_sub (lv2 := [(0, .ref (ad 70)), (1, .int v1), (2, .int v2), (3, .int v3), (5, .int v5), (6, .int v26)]) [2, 3, 4, 5, 6, 0] rfl ?_
        exact ih _ _ _ h
      · clear h; intro hc30 h
        refine g_iload_n C dX8_costOf_33 rfl 4 rfl ?_
        refine g_iload C dX8_costOf_34 0 rfl ?_
        replace h := bs_some h
        obtain ⟨r27, h1, h⟩ := h
        refine g_cS (As := [.int v3, .int v25]) (rest := []) (stk2 := [.int r27]) C mf_X8_has lk_X8_103 sm_X8_has dX8_costOf_36 rfl rfl rfl ⟨Nat.le_of_ble_eq_true rfl, Nat.le_of_ble_eq_true rfl⟩ (Nat.le_of_ble_eq_true rfl) ⟨Nat.le_refl 0, Nat.le_refl 0⟩ (ct_X8_has hL h1) ?_
        refine g_if_eq (tgt := 90) C dX8_costOf_39 (by decide) h ?_ ?_
        · clear h; intro hc39 h
          refine g_iinc (lv' := fun y => [(6, .int y), (7, .int v25), (0, .ref (ad 70)), (1, .int v1), (2, .int v2), (3, .int v3), (5, .int v5)]) C dX8_costOf_90 6 rfl rfl (by decide) (fun y => rfl) h ?_
          clear h; intro v28 h
          refine g_goto (tgt := 12) C dX8_costOf_93 (by decide) ?_
          refine g_sub (lv2 := [(0, .ref (ad 70)), (1, .int v1), (2, .int v2), (3, .int v3), (5, .int v5), (6, .int v28)]) [2, 3, 4, 5, 6, 0] rfl ?_
          exact ih _ _ _ h
        · clear h; intro hc39 h
          refine g_iload C dX8_costOf_42 5 rfl ?_
          refine g_aload_n C dX8_costOf_44 rfl 1 rfl ?_
          refine g_getI C ok8 dX8_costOf_45 (hL 70 rfl) rfl 12 (by decide) lk_X8_115 rfl ?_
          refine g_bipush (v := (7 : Int32)) C dX8_costOf_48 (by decide) ?_
          replace h := lt_ex h
          obtain ⟨j30, ej30, h⟩ := h
          have hj30 : ∀ (x29 : Int32), j30 x29 = some (r', st') → Gm p l e (rmD 2) s m args below meth c D cy ad A L 8 0 0 (MQ below (QG D cy ad A L (some (.int r')) st') args s 0 0 A) 81 [(0, .ref (ad 70)), (1, .int v1), (2, .int v2), (3, .int v3), (6, .int v6), (7, .int v25)] [.int x29, .int v5] st := by
            intro x29 h
            rw [ej30] at h
            dsimp only at h
            refine g_iadd C dX8_costOf_81 ?_
            refine g_istore (lv' := fun y => [(5, .int y), (0, .ref (ad 70)), (1, .int v1), (2, .int v2), (3, .int v3), (6, .int v6), (7, .int v25)]) C dX8_costOf_82 (by decide) (fun y => rfl) h ?_
            clear h; intro v31 h
            refine g_aload_n C dX8_costOf_84 rfl 1 rfl ?_
            refine g_iload C dX8_costOf_85 6 rfl ?_
            refine g_put (ty := .int) C ok8 dX8_costOf_87 (hL 70 rfl) rfl 12 (by decide) lk_X8_115 rfl (tyX8_ok 12 (by decide)) rfl rfl rfl h ?_
            clear h; intro s32 h
            refine g_iinc (lv' := fun y => [(6, .int y), (5, .int v31), (0, .ref (ad 70)), (1, .int v1), (2, .int v2), (3, .int v3), (7, .int v25)]) C dX8_costOf_90 5 rfl rfl (by decide) (fun y => rfl) h ?_
            clear h; intro v33 h
            refine g_goto (tgt := 12) C dX8_costOf_93 (by decide) ?_
            refine g_sub (lv2 := [(0, .ref (ad 70)), (1, .int v1), (2, .int v2), (3, .int v3), (5, .int v31), (6, .int v33)]) [2, 3, 4, 5, 1, 0] rfl ?_
            exact ih _ _ _ h
          refine g_icmp_eq (tgt := 76) C dX8_costOf_50 (by decide) h ?_ ?_
          · clear h; intro hc50 h
            refine g_iconst (v := (1 : Int32)) C dX8_costOf_76 (by decide) ?_
            refine g_goto (tgt := 81) C dX8_costOf_77 (by decide) ?_
            refine g_sub (lv2 := [(0, .ref (ad 70)), (1, .int v1), (2, .int v2), (3, .int v3), (6, .int v6), (7, .int v25)]) [1, 2, 3, 4, 6, 0] rfl ?_
            exact hj30 _ h
          · clear h; intro hc50 h
            refine g_aload_n C dX8_costOf_53 rfl 1 rfl ?_
            refine g_aload_n C dX8_costOf_54 rfl 1 rfl ?_
            refine g_getR (k2 := 80) C ok8 dX8_costOf_55 (hL 70 rfl) rfl 10 (by decide) lk_X8_38 rfl rfl ?_
            refine g_aload_n C dX8_costOf_58 rfl 1 rfl ?_
            refine g_getI C ok8 dX8_costOf_59 (hL 70 rfl) rfl 12 (by decide) lk_X8_115 rfl ?_
            refine g_iald C dX8_costOf_62 (hL 80 rfl) rfl rfl h ?_
            clear h; intro h
            refine g_aload_n C dX8_costOf_63 rfl 1 rfl ?_
            refine g_getR (k2 := 80) C ok8 dX8_costOf_64 (hL 70 rfl) rfl 10 (by decide) lk_X8_38 rfl rfl ?_
            refine g_iload C dX8_costOf_67 0 rfl ?_
            refine g_iald C dX8_costOf_69 (hL 80 rfl) rfl rfl h ?_
            clear h; intro h
            replace h := bs_some h
            obtain ⟨r34, h1, h⟩ := h
            refine g_cV (As := [.int (st 80 (st 70 12).toNatClampNeg), .int (st 80 v25.toNatClampNeg)]) (rest := [.int v5]) (stk2 := [.int r34, .int v5]) C mf_X8_isFar ok8 rfl lk_X8_118 in_X8_isFar se_X8_isFar dX8_costOf_70 (hL 70 rfl) rfl rfl rfl rfl ⟨Nat.le_of_ble_eq_true rfl, Nat.le_of_ble_eq_true rfl⟩ (Nat.le_of_ble_eq_true rfl) ⟨Nat.le_refl 0, Nat.le_refl 0⟩ (ct_X8_isFar hL h1) ?_
            refine g_if_eq (tgt := 80) C dX8_costOf_73 (by decide) h ?_ ?_
            · clear h; intro hc73 h
              refine g_iconst (v := (0 : Int32)) C dX8_costOf_80 (by decide) ?_
              refine g_sub (lv2 := [(0, .ref (ad 70)), (1, .int v1), (2, .int v2), (3, .int v3), (6, .int v6), (7, .int v25)]) [1, 2, 3, 4, 6, 0] rfl ?_
              exact hj30 _ h
            · clear h; intro hc73 h
              refine g_iconst (v := (1 : Int32)) C dX8_costOf_76 (by decide) ?_
              refine g_goto (tgt := 81) C dX8_costOf_77 (by decide) ?_
              refine g_sub (lv2 := [(0, .ref (ad 70)), (1, .int v1), (2, .int v2), (3, .int v3), (6, .int v6), (7, .int v25)]) [1, 2, 3, 4, 6, 0] rfl ?_
              exact hj30 _ h
set_option maxHeartbeats 4000000 in
set_option maxRecDepth 100000 in
theorem ct_X8_costOf {N : Nat} (hL : ∀ k, prF k = true → k ∈ L) {v1 : Int32} {v2 : Int32} {v3 : Int32} {v4 : Int32} {st st' : St} {r' : Int32} (h : F_X8_costOf N v1 v2 v3 v4 st = some (r', st')) : Ct l D cy ad A L yX8_costOf cX8_costOf 8 (some .int) 2 [.ref (ad 70), .int v1, .int v2, .int v3, .int v4] st (some (.int r')) st' := by
  unfold F_X8_costOf at h
  refine ct_of (own := RX8) (by decide) rfl (Nat.le_of_ble_eq_true rfl) ?_
  intro p e s m args below meth c C hr hlk
  refine g_sub (lv2 := [(0, .ref (ad 70)), (1, .int v1), (2, .int v2), (3, .int v3), (4, .int v4)]) [0, 1, 2, 3, 4] rfl ?_
  refine g_iconst (v := (0 : Int32)) C dX8_costOf_0 (by decide) ?_
  refine g_istore (lv' := fun y => [(5, .int y), (0, .ref (ad 70)), (1, .int v1), (2, .int v2), (3, .int v3), (4, .int v4)]) C dX8_costOf_1 (by decide) (fun y => rfl) h ?_
  clear h; intro v21 h
  refine g_aload_n C dX8_costOf_3 rfl 1 rfl ?_
  refine g_iload C dX8_costOf_4 5 rfl ?_
  refine g_put (ty := .int) C ok8 dX8_costOf_6 (hL 70 rfl) rfl 12 (by decide) lk_X8_115 rfl (tyX8_ok 12 (by decide)) rfl rfl rfl h ?_
  clear h; intro s22 h
  refine g_iconst (v := (0 : Int32)) C dX8_costOf_9 (by decide) ?_
  refine g_istore (lv' := fun y => [(6, .int y), (5, .int v21), (0, .ref (ad 70)), (1, .int v1), (2, .int v2), (3, .int v3), (4, .int v4)]) C dX8_costOf_10 (by decide) (fun y => rfl) h ?_
  clear h; intro v23 h
  refine g_sub (lv2 := [(0, .ref (ad 70)), (1, .int v1), (2, .int v2), (3, .int v3), (5, .int v21), (6, .int v23)]) [2, 3, 4, 5, 1, 0] rfl ?_
  refine wlp_X8_costOf_12 (N := N) C hr hlk hL  _ _ _ _ h
-- X8_payBehind
def F_X8_payBehind (N : Nat) (v1 : Int32) (v2 : Int32) (v3 : Int32) (v4 : Int32) (st : St) : Option (Int32 × St) :=
  bd (F_X8_costOf N v1 v2 v3 v4 st) (fun (r21 : Int32) (s22 : St) => lt r21 (fun (v23 : Int32) => ck (inb (((8 : Int32) * (v1 + (1 : Int32))) + (s22 70 12)) 88) (some ((v23 + (s22 81 (((8 : Int32) * (v1 + (1 : Int32))) + (s22 70 12)).toNatClampNeg)), s22))))
set_option maxHeartbeats 4000000 in
set_option maxRecDepth 100000 in
theorem ct_X8_payBehind {N : Nat} (hL : ∀ k, prF k = true → k ∈ L) {v1 : Int32} {v2 : Int32} {v3 : Int32} {v4 : Int32} {st st' : St} {r' : Int32} (h : F_X8_payBehind N v1 v2 v3 v4 st = some (r', st')) : Ct l D cy ad A L yX8_payBehind cX8_payBehind 6 (some .int) 3 [.ref (ad 70), .int v1, .int v2, .int v3, .int v4] st (some (.int r')) st' := by
  unfold F_X8_payBehind at h
  refine ct_of (own := RX8) (by decide) rfl (Nat.le_of_ble_eq_true rfl) ?_
  intro p e s m args below meth c C hr hlk
  refine g_sub (lv2 := [(0, .ref (ad 70)), (1, .int v1), (2, .int v2), (3, .int v3), (4, .int v4)]) [0, 1, 2, 3, 4] rfl ?_
  refine g_aload_n C dX8_payBehind_0 rfl 0 rfl ?_
  refine g_iload_n C dX8_payBehind_1 rfl 1 rfl ?_
  refine g_iload_n C dX8_payBehind_2 rfl 2 rfl ?_
  refine g_iload_n C dX8_payBehind_3 rfl 3 rfl ?_
  refine g_iload C dX8_payBehind_4 4 rfl ?_
  replace h := bd_some h
  obtain ⟨r21, s22, h1, h⟩ := h
  refine g_cV (As := [.int v1, .int v2, .int v3, .int v4]) (rest := []) (stk2 := [.int r21]) C mf_X8_costOf ok8 rfl lk_X8_121 in_X8_costOf se_X8_costOf dX8_payBehind_6 (hL 70 rfl) rfl rfl rfl rfl ⟨Nat.le_of_ble_eq_true rfl, Nat.le_of_ble_eq_true rfl⟩ (Nat.le_of_ble_eq_true rfl) ⟨Nat.le_refl 0, Nat.le_refl 0⟩ (ct_X8_costOf hL h1) ?_
  refine g_istore (lv' := fun y => [(5, .int y), (0, .ref (ad 70)), (1, .int v1), (2, .int v2), (3, .int v3), (4, .int v4)]) C dX8_payBehind_9 (by decide) (fun y => rfl) h ?_
  clear h; intro v23 h
  refine g_iload C dX8_payBehind_11 0 rfl ?_
  refine g_aload_n C dX8_payBehind_13 rfl 1 rfl ?_
  refine g_getR (k2 := 81) C ok8 dX8_payBehind_14 (hL 70 rfl) rfl 11 (by decide) lk_X8_41 rfl rfl ?_
  refine g_bipush (v := (8 : Int32)) C dX8_payBehind_17 (by decide) ?_
  refine g_iload_n C dX8_payBehind_19 rfl 2 rfl ?_
  refine g_iconst (v := (1 : Int32)) C dX8_payBehind_20 (by decide) ?_
  refine g_iadd C dX8_payBehind_21 ?_
  refine g_imul C dX8_payBehind_22 ?_
  refine g_aload_n C dX8_payBehind_23 rfl 1 rfl ?_
  refine g_getI C ok8 dX8_payBehind_24 (hL 70 rfl) rfl 12 (by decide) lk_X8_115 rfl ?_
  refine g_iadd C dX8_payBehind_27 ?_
  refine g_iald C dX8_payBehind_28 (hL 81 rfl) rfl rfl h ?_
  clear h; intro h
  refine g_iadd C dX8_payBehind_29 ?_
  exact g_iret C hr hlk dX8_payBehind_30 h
-- X8_canTurn
def F_X8_canTurn (v1 : Int32) (st : St) : Option (Int32) :=
  ck (inb v1 10) (lt (some (0 : Int32)) (fun (j21 : Option (Int32)) => lt (ck (inb v1 10) (ck (inb v1 10) ((if (st 73 v1.toNatClampNeg) = (st 74 v1.toNatClampNeg) then j21 else some (1 : Int32))))) (fun (j22 : Option (Int32)) => (if (st 71 v1.toNatClampNeg) = (1 : Int32) then j22 else ck (inb v1 10) ((if (st 71 v1.toNatClampNeg) = (3 : Int32) then j22 else ck (inb v1 10) ((if (st 71 v1.toNatClampNeg) = (4 : Int32) then j22 else j21))))))))
set_option maxHeartbeats 4000000 in
set_option maxRecDepth 100000 in
theorem ct_X8_canTurn (hL : ∀ k, prF k = true → k ∈ L) {v1 : Int32} {st : St} {r' : Int32} (h : F_X8_canTurn v1 st = some r') : Ct l D cy ad A L yX8_canTurn cX8_canTurn 2 (some .boolean) 1 [.ref (ad 70), .int v1] st (some (.int r')) st := by
  unfold F_X8_canTurn at h
  refine ct_of (own := RX8) (by decide) rfl (Nat.le_of_ble_eq_true rfl) ?_
  intro p e s m args below meth c C hr hlk
  refine g_sub (lv2 := [(0, .ref (ad 70)), (1, .int v1)]) [0, 1] rfl ?_
  refine g_aload_n C dX8_canTurn_0 rfl 0 rfl ?_
  refine g_getR (k2 := 71) C ok8 dX8_canTurn_1 (hL 70 rfl) rfl 1 (by decide) lk_X8_7 rfl rfl ?_
  refine g_iload_n C dX8_canTurn_4 rfl 1 rfl ?_
  refine g_iald C dX8_canTurn_5 (hL 71 rfl) rfl rfl h ?_
  clear h; intro h
  refine g_iconst (v := (1 : Int32)) C dX8_canTurn_6 (by decide) ?_
  replace h := lt_ex h
  obtain ⟨j21, ej21, h⟩ := h
  have hj21 : j21 = some r' → Gm p l e (rmD 1) s m args below meth c D cy ad A L 2 0 0 (MQ below (QG D cy ad A L (some (.int r')) st) args s 0 0 A) 49 [] [] st := by
    intro h
    rw [ej21] at h
    skip
    refine g_iconst (v := (0 : Int32)) C dX8_canTurn_49 (by decide) ?_
    exact g_zretLP C hr hlk rfl dX8_canTurn_50 h
  replace h := lt_ex h
  obtain ⟨j22, ej22, h⟩ := h
  have hj22 : j22 = some r' → Gm p l e (rmD 1) s m args below meth c D cy ad A L 2 0 0 (MQ below (QG D cy ad A L (some (.int r')) st) args s 0 0 A) 30 [(0, .ref (ad 70)), (1, .int v1)] [] st := by
    intro h
    rw [ej22] at h
    skip
    refine g_aload_n C dX8_canTurn_30 rfl 0 rfl ?_
    refine g_getR (k2 := 73) C ok8 dX8_canTurn_31 (hL 70 rfl) rfl 3 (by decide) lk_X8_16 rfl rfl ?_
    refine g_iload_n C dX8_canTurn_34 rfl 1 rfl ?_
    refine g_iald C dX8_canTurn_35 (hL 73 rfl) rfl rfl h ?_
    clear h; intro h
    refine g_aload_n C dX8_canTurn_36 rfl 0 rfl ?_
    refine g_getR (k2 := 74) C ok8 dX8_canTurn_37 (hL 70 rfl) rfl 4 (by decide) lk_X8_19 rfl rfl ?_
    refine g_iload_n C dX8_canTurn_40 rfl 1 rfl ?_
    refine g_iald C dX8_canTurn_41 (hL 74 rfl) rfl rfl h ?_
    clear h; intro h
    refine g_icmp_eq (tgt := 49) C dX8_canTurn_42 (by decide) h ?_ ?_
    · clear h; intro hc42 h
      refine g_sub (lv2 := []) [] rfl ?_
      exact hj21  h
    · clear h; intro hc42 h
      refine g_iconst (v := (1 : Int32)) C dX8_canTurn_45 (by decide) ?_
      refine g_goto (tgt := 50) C dX8_canTurn_46 (by decide) ?_
      exact g_zretLP C hr hlk rfl dX8_canTurn_50 h
  refine g_icmp_eq (tgt := 30) C dX8_canTurn_7 (by decide) h ?_ ?_
  · clear h; intro hc7 h
    refine g_sub (lv2 := [(0, .ref (ad 70)), (1, .int v1)]) [0, 1] rfl ?_
    exact hj22  h
  · clear h; intro hc7 h
    refine g_aload_n C dX8_canTurn_10 rfl 0 rfl ?_
    refine g_getR (k2 := 71) C ok8 dX8_canTurn_11 (hL 70 rfl) rfl 1 (by decide) lk_X8_7 rfl rfl ?_
    refine g_iload_n C dX8_canTurn_14 rfl 1 rfl ?_
    refine g_iald C dX8_canTurn_15 (hL 71 rfl) rfl rfl h ?_
    clear h; intro h
    refine g_iconst (v := (3 : Int32)) C dX8_canTurn_16 (by decide) ?_
    refine g_icmp_eq (tgt := 30) C dX8_canTurn_17 (by decide) h ?_ ?_
    · clear h; intro hc17 h
      refine g_sub (lv2 := [(0, .ref (ad 70)), (1, .int v1)]) [0, 1] rfl ?_
      exact hj22  h
    · clear h; intro hc17 h
      refine g_aload_n C dX8_canTurn_20 rfl 0 rfl ?_
      refine g_getR (k2 := 71) C ok8 dX8_canTurn_21 (hL 70 rfl) rfl 1 (by decide) lk_X8_7 rfl rfl ?_
      refine g_iload_n C dX8_canTurn_24 rfl 1 rfl ?_
      refine g_iald C dX8_canTurn_25 (hL 71 rfl) rfl rfl h ?_
      clear h; intro h
      refine g_iconst (v := (4 : Int32)) C dX8_canTurn_26 (by decide) ?_
      refine g_icmp_ne (tgt := 49) C dX8_canTurn_27 (by decide) h ?_ ?_
      · clear h; intro hc27 h
        refine g_sub (lv2 := []) [] rfl ?_
        exact hj21  h
      · clear h; intro hc27 h
        refine g_sub (lv2 := [(0, .ref (ad 70)), (1, .int v1)]) [0, 1] rfl ?_
        exact hj22  h
-- X8_layPay
def lpB_X8_layPay_2 (K29 : St → Option (Int32 × St)) (self : Int32 → St → Option (Int32 × St)) (v3 : Int32) (st : St) : Option (Int32 × St) :=
  (if (8 : Int32) ≤ v3 then K29 st else ck (inb (((8 : Int32) * (st 70 0)) + v3) 88) (lt (up st 81 (((8 : Int32) * (st 70 0)) + v3).toNatClampNeg (0 : Int32)) (fun (s22 : St) => lt (v3 + (1 : Int32)) (fun (v23 : Int32) => self v23 s22))))
def lp_X8_layPay_2 (K29 : St → Option (Int32 × St)) : Nat → Int32 → St → Option (Int32 × St) := itf (lpB_X8_layPay_2 K29) (fun _ _ => none)
def lpB_X8_layPay_43 (N : Nat) (v1 : Int32) (v2 : Int32) (v3 : Int32) (K138 : St → Option (Int32 × St)) (self : Int32 → St → Option (Int32 × St)) (v4 : Int32) (st : St) : Option (Int32 × St) :=
  (if (8 : Int32) ≤ v4 then K138 st else lt (bd (F_X8_payBehind N v3 (0 : Int32) v1 v4 st) (fun (r28 : Int32) (s29 : St) => lt r28 (fun (v30 : Int32) => lt (fun (x31 : Int32) (s32 : St) => lt x31 (fun (v34 : Int32) => lt (fun (x35 : Int32) => ck (inb (((8 : Int32) * v3) + v4) 88) (lt (up s32 81 (((8 : Int32) * v3) + v4).toNatClampNeg x35) (fun (s37 : St) => lt (v4 + (1 : Int32)) (fun (v38 : Int32) => self v38 s37)))) (fun (j36 : Int32 → Option (Int32 × St)) => (if v34 ≤ v30 then j36 v34 else j36 v30)))) (fun (j33 : Int32 → St → Option (Int32 × St)) => lt (j33 v30 s29) (fun (j39 : Option (Int32 × St)) => (if v2 = (1 : Int32) then bs (F_X8_canTurn v3 s29) (fun (r40 : Int32) => (if r40 = 0 then j39 else bd (F_X8_payBehind N v3 (1 : Int32) v1 v4 s29) (fun (r41 : Int32) (s42 : St) => j33 r41 s42))) else j39)))))) (fun (j27 : Option (Int32 × St)) => (if v4 = (7 : Int32) then j27 else bs (F_X8_has v1 v4) (fun (r43 : Int32) => (if r43 = 0 then lt (v4 + (1 : Int32)) (fun (v44 : Int32) => self v44 st) else j27)))))
def lp_X8_layPay_43 (N : Nat) (v1 : Int32) (v2 : Int32) (v3 : Int32) (K138 : St → Option (Int32 × St)) : Nat → Int32 → St → Option (Int32 × St) := itf (lpB_X8_layPay_43 N v1 v2 v3 K138) (fun _ _ => none)
def lpB_X8_layPay_36 (N : Nat) (v1 : Int32) (v2 : Int32) (K144 : St → Option (Int32 × St)) (self : Int32 → St → Option (Int32 × St)) (v3 : Int32) (st : St) : Option (Int32 × St) :=
  (if v3 < 0 then K144 st else lt (0 : Int32) (fun (v26 : Int32) => lp_X8_layPay_43 N v1 v2 v3 (fun (s45 : St) => lt (v3 + (-1 : Int32)) (fun (v46 : Int32) => self v46 s45)) N v26 st))
def lp_X8_layPay_36 (N : Nat) (v1 : Int32) (v2 : Int32) (K144 : St → Option (Int32 × St)) : Nat → Int32 → St → Option (Int32 × St) := itf (lpB_X8_layPay_36 N v1 v2 K144) (fun _ _ => none)
def F_X8_layPay (N : Nat) (v1 : Int32) (v2 : Int32) (st : St) : Option (Int32 × St) :=
  lt (0 : Int32) (fun (v21 : Int32) => lp_X8_layPay_2 (fun (s24 : St) => lt ((s24 70 0) - (1 : Int32)) (fun (v25 : Int32) => lp_X8_layPay_36 N v1 v2 (fun (s47 : St) => ck (inb (7 : Int32) 88) (some ((s47 81 (7 : Int32).toNatClampNeg), s47))) N v25 s24)) N v21 st)
set_option maxHeartbeats 4000000 in
set_option maxRecDepth 100000 in
theorem wlp_X8_layPay_2 (C : Cx p s m args c cX8_layPay RX8 7 D cy ad A L) (hr : meth.sig.returnType = (some .int)) (hlk : meth.locks = false) (hL : ∀ k, prF k = true → k ∈ L) {N : Nat} {v1 : Int32} {v2 : Int32} {r' : Int32} {st' : St} {K29 : St → Option (Int32 × St)} (hK29 : ∀  (st : St), K29 st = some (r', st') → Gm p l e (rmD 4) s m args below meth c D cy ad A L 7 0 0 (MQ below (QG D cy ad A L (some (.int r')) st') args s 0 0 A) 29 [(0, .ref (ad 70)), (1, .int v1), (2, .int v2)] [] st) : ∀ (n : Nat) (v3 : Int32) (st : St), lp_X8_layPay_2 K29 n v3 st = some (r', st') → Gm p l e (rmD 4) s m args below meth c D cy ad A L 7 0 0 (MQ below (QG D cy ad A L (some (.int r')) st') args s 0 0 A) 2 [(0, .ref (ad 70)), (1, .int v1), (2, .int v2), (3, .int v3)] [] st := by
  intro n
  induction n with
  | zero => intro v3 st h; cases h
  | succ n ih =>
    intro v3 st h
    change lpB_X8_layPay_2 K29 (lp_X8_layPay_2 K29 n) v3 st = some _ at h
    unfold lpB_X8_layPay_2 at h
    refine g_iload_n C dX8_layPay_2 rfl 3 rfl ?_
    refine g_bipush (v := (8 : Int32)) C dX8_layPay_3 (by decide) ?_
    refine g_icmp_ge (tgt := 29) C dX8_layPay_5 (by decide) h ?_ ?_
    · clear h; intro hc5 h
      refine g_sub (lv2 := [(0, .ref (ad 70)), (1, .int v1), (2, .int v2)]) [0, 1, 2] rfl ?_
      exact hK29 _ h
    · clear h; intro hc5 h
      refine g_aload_n C dX8_layPay_8 rfl 0 rfl ?_
      refine g_getR (k2 := 81) C ok8 dX8_layPay_9 (hL 70 rfl) rfl 11 (by decide) lk_X8_41 rfl rfl ?_
      refine g_bipush (v := (8 : Int32)) C dX8_layPay_12 (by decide) ?_
      refine g_aload_n C dX8_layPay_14 rfl 0 rfl ?_
      refine g_getI C ok8 dX8_layPay_15 (hL 70 rfl) rfl 0 (by decide) lk_X8_87 rfl ?_
      refine g_imul C dX8_layPay_18 ?_
      refine g_iload_n C dX8_layPay_19 rfl 3 rfl ?_
      refine g_iadd C dX8_layPay_20 ?_
      refine g_iconst (v := (0 : Int32)) C dX8_layPay_21 (by decide) ?_
      refine g_iast C dX8_layPay_22 (hL 81 rfl) rfl rfl h ?_
      clear h; intro s22 h
      refine g_iinc (lv' := fun y => [(3, .int y), (0, .ref (ad 70)), (1, .int v1), (2, .int v2)]) C dX8_layPay_23 3 rfl rfl (by decide) (fun y => rfl) h ?_
      clear h; intro v23 h
      refine g_goto (tgt := 2) C dX8_layPay_26 (by decide) ?_
      refine g_sub (lv2 := [(0, .ref (ad 70)), (1, .int v1), (2, .int v2), (3, .int v23)]) [1, 2, 3, 0] rfl ?_
      exact ih _ _ h
set_option maxHeartbeats 4000000 in
set_option maxRecDepth 100000 in
theorem wlp_X8_layPay_43 (C : Cx p s m args c cX8_layPay RX8 7 D cy ad A L) (hr : meth.sig.returnType = (some .int)) (hlk : meth.locks = false) (hL : ∀ k, prF k = true → k ∈ L) {N : Nat} {v1 : Int32} {v2 : Int32} {v3 : Int32} {r' : Int32} {st' : St} {K138 : St → Option (Int32 × St)} (hK138 : ∀  (st : St), K138 st = some (r', st') → Gm p l e (rmD 4) s m args below meth c D cy ad A L 7 0 0 (MQ below (QG D cy ad A L (some (.int r')) st') args s 0 0 A) 138 [(0, .ref (ad 70)), (1, .int v1), (2, .int v2), (3, .int v3)] [] st) : ∀ (n : Nat) (v4 : Int32) (st : St), lp_X8_layPay_43 N v1 v2 v3 K138 n v4 st = some (r', st') → Gm p l e (rmD 4) s m args below meth c D cy ad A L 7 0 0 (MQ below (QG D cy ad A L (some (.int r')) st') args s 0 0 A) 43 [(0, .ref (ad 70)), (1, .int v1), (2, .int v2), (3, .int v3), (4, .int v4)] [] st := by
  intro n
  induction n with
  | zero => intro v4 st h; cases h
  | succ n ih =>
    intro v4 st h
    change lpB_X8_layPay_43 N v1 v2 v3 K138 (lp_X8_layPay_43 N v1 v2 v3 K138 n) v4 st = some _ at h
    unfold lpB_X8_layPay_43 at h
    refine g_iload C dX8_layPay_43 4 rfl ?_
    refine g_bipush (v := (8 : Int32)) C dX8_layPay_45 (by decide) ?_
    refine g_icmp_ge (tgt := 138) C dX8_layPay_47 (by decide) h ?_ ?_
    · clear h; intro hc47 h
      refine g_sub (lv2 := [(0, .ref (ad 70)), (1, .int v1), (2, .int v2), (3, .int v3)]) [0, 1, 2, 3] rfl ?_
      exact hK138 _ h
    · clear h; intro hc47 h
      refine g_iload C dX8_layPay_50 4 rfl ?_
      refine g_bipush (v := (7 : Int32)) C dX8_layPay_52 (by decide) ?_
      replace h := lt_ex h
      obtain ⟨j27, ej27, h⟩ := h
      have hj27 : j27 = some (r', st') → Gm p l e (rmD 4) s m args below meth c D cy ad A L 7 0 0 (MQ below (QG D cy ad A L (some (.int r')) st') args s 0 0 A) 66 [(0, .ref (ad 70)), (1, .int v1), (2, .int v2), (3, .int v3), (4, .int v4)] [] st := by
        intro h
        rw [ej27] at h
        skip
        refine g_aload_n C dX8_layPay_66 rfl 0 rfl ?_
        refine g_iload_n C dX8_layPay_67 rfl 3 rfl ?_
        refine g_iconst (v := (0 : Int32)) C dX8_layPay_68 (by decide) ?_
        refine g_iload_n C dX8_layPay_69 rfl 1 rfl ?_
        refine g_iload C dX8_layPay_70 4 rfl ?_
        replace h := bd_some h
        obtain ⟨r28, s29, h1, h⟩ := h
        refine g_cV (As := [.int v3, .int (0 : Int32), .int v1, .int v4]) (rest := []) (stk2 := [.int r28]) C mf_X8_payBehind ok8 rfl lk_X8_125 in_X8_payBehind se_X8_payBehind dX8_layPay_72 (hL 70 rfl) rfl rfl rfl rfl ⟨Nat.le_of_ble_eq_true rfl, Nat.le_of_ble_eq_true rfl⟩ (Nat.le_of_ble_eq_true rfl) ⟨Nat.le_refl 0, Nat.le_refl 0⟩ (ct_X8_payBehind hL h1) ?_
        refine g_istore (lv' := fun y => [(5, .int y), (0, .ref (ad 70)), (1, .int v1), (2, .int v2), (3, .int v3), (4, .int v4)]) C dX8_layPay_75 (by decide) (fun y => rfl) h ?_
        clear h; intro v30 h
        refine g_iload_n C dX8_layPay_77 rfl 3 rfl ?_
        refine g_iconst (v := (1 : Int32)) C dX8_layPay_78 (by decide) ?_
        replace h := lt_ex h
        obtain ⟨j33, ej33, h⟩ := h
        have hj33 : ∀ (x31 : Int32) (s32 : St), j33 x31 s32 = some (r', st') → Gm p l e (rmD 4) s m args below meth c D cy ad A L 7 0 0 (MQ below (QG D cy ad A L (some (.int r')) st') args s 0 0 A) 104 [(0, .ref (ad 70)), (1, .int v1), (2, .int v2), (3, .int v3), (4, .int v4), (5, .int v30)] [.int x31] s32 := by
          intro x31 s32 h
          rw [ej33] at h
          dsimp only at h
          refine g_istore (lv' := fun y => [(6, .int y), (0, .ref (ad 70)), (1, .int v1), (2, .int v2), (3, .int v3), (4, .int v4), (5, .int v30)]) C dX8_layPay_104 (by decide) (fun y => rfl) h ?_
          clear h; intro v34 h
          refine g_aload_n C dX8_layPay_106 rfl 1 rfl ?_
          refine g_getR (k2 := 81) C ok8 dX8_layPay_107 (hL 70 rfl) rfl 11 (by decide) lk_X8_41 rfl rfl ?_
          refine g_bipush (v := (8 : Int32)) C dX8_layPay_110 (by decide) ?_
          refine g_iload_n C dX8_layPay_112 rfl 4 rfl ?_
          refine g_imul C dX8_layPay_113 ?_
          refine g_iload C dX8_layPay_114 5 rfl ?_
          refine g_iadd C dX8_layPay_116 ?_
          refine g_iload C dX8_layPay_117 6 rfl ?_
          refine g_iload C dX8_layPay_119 0 rfl ?_
          replace h := lt_ex h
          obtain ⟨j36, ej36, h⟩ := h
          have hj36 : ∀ (x35 : Int32), j36 x35 = some (r', st') → Gm p l e (rmD 4) s m args below meth c D cy ad A L 7 0 0 (MQ below (QG D cy ad A L (some (.int r')) st') args s 0 0 A) 131 [(0, .ref (ad 70)), (1, .int v1), (2, .int v2), (3, .int v3), (4, .int v4)] [.int x35, .int (((8 : Int32) * v3) + v4), .ref (ad 81)] s32 := by
            intro x35 h
            rw [ej36] at h
            dsimp only at h
            refine g_iast C dX8_layPay_131 (hL 81 rfl) rfl rfl h ?_
            clear h; intro s37 h
            refine g_iinc (lv' := fun y => [(4, .int y), (0, .ref (ad 70)), (1, .int v1), (2, .int v2), (3, .int v3)]) C dX8_layPay_132 4 rfl rfl (by decide) (fun y => rfl) h ?_
            clear h; intro v38 h
            refine g_goto (tgt := 43) C dX8_layPay_135 (by decide) ?_
            refine g_sub (lv2 := [(0, .ref (ad 70)), (1, .int v1), (2, .int v2), (3, .int v3), (4, .int v38)]) [1, 2, 3, 4, 0] rfl ?_
            exact ih _ _ h
          refine g_icmp_ge (tgt := 129) C dX8_layPay_121 (by decide) h ?_ ?_
          · clear h; intro hc121 h
            refine g_iload C dX8_layPay_129 0 rfl ?_
            refine g_sub (lv2 := [(0, .ref (ad 70)), (1, .int v1), (2, .int v2), (3, .int v3), (4, .int v4)]) [1, 2, 3, 4, 5] rfl ?_
            exact hj36 _ h
          · clear h; intro hc121 h
            refine g_iload C dX8_layPay_124 6 rfl ?_
            refine g_goto (tgt := 131) C dX8_layPay_126 (by decide) ?_
            refine g_sub (lv2 := [(0, .ref (ad 70)), (1, .int v1), (2, .int v2), (3, .int v3), (4, .int v4)]) [1, 2, 3, 4, 5] rfl ?_
            exact hj36 _ h
        replace h := lt_ex h
        obtain ⟨j39, ej39, h⟩ := h
        have hj39 : j39 = some (r', st') → Gm p l e (rmD 4) s m args below meth c D cy ad A L 7 0 0 (MQ below (QG D cy ad A L (some (.int r')) st') args s 0 0 A) 102 [(0, .ref (ad 70)), (1, .int v1), (2, .int v2), (3, .int v3), (4, .int v4), (5, .int v30)] [] s29 := by
          intro h
          rw [ej39] at h
          skip
          refine g_iload C dX8_layPay_102 5 rfl ?_
          refine g_sub (lv2 := [(0, .ref (ad 70)), (1, .int v1), (2, .int v2), (3, .int v3), (4, .int v4), (5, .int v30)]) [0, 1, 2, 3, 4, 5] rfl ?_
          exact hj33 _ _ h
        refine g_icmp_ne (tgt := 102) C dX8_layPay_79 (by decide) h ?_ ?_
        · clear h; intro hc79 h
          refine g_sub (lv2 := [(0, .ref (ad 70)), (1, .int v1), (2, .int v2), (3, .int v3), (4, .int v4), (5, .int v30)]) [1, 2, 3, 4, 5, 0] rfl ?_
          exact hj39  h
        · clear h; intro hc79 h
          refine g_aload_n C dX8_layPay_82 rfl 1 rfl ?_
          refine g_iload_n C dX8_layPay_83 rfl 4 rfl ?_
          replace h := bs_some h
          obtain ⟨r40, h1, h⟩ := h
          refine g_cV (As := [.int v3]) (rest := []) (stk2 := [.int r40]) C mf_X8_canTurn ok8 rfl lk_X8_128 in_X8_canTurn se_X8_canTurn dX8_layPay_84 (hL 70 rfl) rfl rfl rfl rfl ⟨Nat.le_of_ble_eq_true rfl, Nat.le_of_ble_eq_true rfl⟩ (Nat.le_of_ble_eq_true rfl) ⟨Nat.le_refl 0, Nat.le_refl 0⟩ (ct_X8_canTurn hL h1) ?_
          refine g_if_eq (tgt := 102) C dX8_layPay_87 (by decide) h ?_ ?_
          · clear h; intro hc87 h
            refine g_sub (lv2 := [(0, .ref (ad 70)), (1, .int v1), (2, .int v2), (3, .int v3), (4, .int v4), (5, .int v30)]) [1, 2, 3, 4, 5, 0] rfl ?_
            exact hj39  h
          · clear h; intro hc87 h
            refine g_aload_n C dX8_layPay_90 rfl 1 rfl ?_
            refine g_iload_n C dX8_layPay_91 rfl 4 rfl ?_
            refine g_iconst (v := (1 : Int32)) C dX8_layPay_92 (by decide) ?_
            refine g_iload_n C dX8_layPay_93 rfl 2 rfl ?_
            refine g_iload C dX8_layPay_94 5 rfl ?_
            replace h := bd_some h
            obtain ⟨r41, s42, h1, h⟩ := h
            refine g_cV (As := [.int v3, .int (1 : Int32), .int v1, .int v4]) (rest := []) (stk2 := [.int r41]) C mf_X8_payBehind ok8 rfl lk_X8_125 in_X8_payBehind se_X8_payBehind dX8_layPay_96 (hL 70 rfl) rfl rfl rfl rfl ⟨Nat.le_of_ble_eq_true rfl, Nat.le_of_ble_eq_true rfl⟩ (Nat.le_of_ble_eq_true rfl) ⟨Nat.le_refl 0, Nat.le_refl 0⟩ (ct_X8_payBehind hL h1) ?_
            refine g_goto (tgt := 104) C dX8_layPay_99 (by decide) ?_
            refine g_sub (lv2 := [(0, .ref (ad 70)), (1, .int v1), (2, .int v2), (3, .int v3), (4, .int v4), (5, .int v30)]) [1, 2, 3, 4, 5, 0] rfl ?_
            exact hj33 _ _ h
      refine g_icmp_eq (tgt := 66) C dX8_layPay_54 (by decide) h ?_ ?_
      · clear h; intro hc54 h
        refine g_sub (lv2 := [(0, .ref (ad 70)), (1, .int v1), (2, .int v2), (3, .int v3), (4, .int v4)]) [0, 1, 2, 3, 4] rfl ?_
        exact hj27  h
      · clear h; intro hc54 h
        refine g_iload_n C dX8_layPay_57 rfl 1 rfl ?_
        refine g_iload C dX8_layPay_58 4 rfl ?_
        replace h := bs_some h
        obtain ⟨r43, h1, h⟩ := h
        refine g_cS (As := [.int v1, .int v4]) (rest := []) (stk2 := [.int r43]) C mf_X8_has lk_X8_103 sm_X8_has dX8_layPay_60 rfl rfl rfl ⟨Nat.le_of_ble_eq_true rfl, Nat.le_of_ble_eq_true rfl⟩ (Nat.le_of_ble_eq_true rfl) ⟨Nat.le_refl 0, Nat.le_refl 0⟩ (ct_X8_has hL h1) ?_
        refine g_if_eq (tgt := 132) C dX8_layPay_63 (by decide) h ?_ ?_
        · clear h; intro hc63 h
          refine g_iinc (lv' := fun y => [(4, .int y), (0, .ref (ad 70)), (1, .int v1), (2, .int v2), (3, .int v3)]) C dX8_layPay_132 4 rfl rfl (by decide) (fun y => rfl) h ?_
          clear h; intro v44 h
          refine g_goto (tgt := 43) C dX8_layPay_135 (by decide) ?_
          refine g_sub (lv2 := [(0, .ref (ad 70)), (1, .int v1), (2, .int v2), (3, .int v3), (4, .int v44)]) [1, 2, 3, 4, 0] rfl ?_
          exact ih _ _ h
        · clear h; intro hc63 h
          refine g_sub (lv2 := [(0, .ref (ad 70)), (1, .int v1), (2, .int v2), (3, .int v3), (4, .int v4)]) [0, 1, 2, 3, 4] rfl ?_
          exact hj27  h
set_option maxHeartbeats 4000000 in
set_option maxRecDepth 100000 in
theorem wlp_X8_layPay_36 (C : Cx p s m args c cX8_layPay RX8 7 D cy ad A L) (hr : meth.sig.returnType = (some .int)) (hlk : meth.locks = false) (hL : ∀ k, prF k = true → k ∈ L) {N : Nat} {v1 : Int32} {v2 : Int32} {r' : Int32} {st' : St} {K144 : St → Option (Int32 × St)} (hK144 : ∀  (st : St), K144 st = some (r', st') → Gm p l e (rmD 4) s m args below meth c D cy ad A L 7 0 0 (MQ below (QG D cy ad A L (some (.int r')) st') args s 0 0 A) 144 [(0, .ref (ad 70))] [] st) : ∀ (n : Nat) (v3 : Int32) (st : St), lp_X8_layPay_36 N v1 v2 K144 n v3 st = some (r', st') → Gm p l e (rmD 4) s m args below meth c D cy ad A L 7 0 0 (MQ below (QG D cy ad A L (some (.int r')) st') args s 0 0 A) 36 [(0, .ref (ad 70)), (1, .int v1), (2, .int v2), (3, .int v3)] [] st := by
  intro n
  induction n with
  | zero => intro v3 st h; cases h
  | succ n ih =>
    intro v3 st h
    change lpB_X8_layPay_36 N v1 v2 K144 (lp_X8_layPay_36 N v1 v2 K144 n) v3 st = some _ at h
    unfold lpB_X8_layPay_36 at h
    refine g_iload_n C dX8_layPay_36 rfl 3 rfl ?_
    refine g_if_lt (tgt := 144) C dX8_layPay_37 (by decide) h ?_ ?_
    · clear h; intro hc37 h
      refine g_sub (lv2 := [(0, .ref (ad 70))]) [0] rfl ?_
      exact hK144 _ h
    · clear h; intro hc37 h
      refine g_iconst (v := (0 : Int32)) C dX8_layPay_40 (by decide) ?_
      refine g_istore (lv' := fun y => [(4, .int y), (0, .ref (ad 70)), (1, .int v1), (2, .int v2), (3, .int v3)]) C dX8_layPay_41 (by decide) (fun y => rfl) h ?_
      clear h; intro v26 h
      refine g_sub (lv2 := [(0, .ref (ad 70)), (1, .int v1), (2, .int v2), (3, .int v3), (4, .int v26)]) [1, 2, 3, 4, 0] rfl ?_
      refine wlp_X8_layPay_43 (N := N) C hr hlk hL ?_ _ _ _ h
      · intro s45 h
        refine g_iinc (lv' := fun y => [(3, .int y), (0, .ref (ad 70)), (1, .int v1), (2, .int v2)]) C dX8_layPay_138 3 rfl rfl (by decide) (fun y => rfl) h ?_
        clear h; intro v46 h
        refine g_goto (tgt := 36) C dX8_layPay_141 (by decide) ?_
        refine g_sub (lv2 := [(0, .ref (ad 70)), (1, .int v1), (2, .int v2), (3, .int v46)]) [1, 2, 3, 0] rfl ?_
        exact ih _ _ h
set_option maxHeartbeats 4000000 in
set_option maxRecDepth 100000 in
theorem ct_X8_layPay {N : Nat} (hL : ∀ k, prF k = true → k ∈ L) {v1 : Int32} {v2 : Int32} {st st' : St} {r' : Int32} (h : F_X8_layPay N v1 v2 st = some (r', st')) : Ct l D cy ad A L yX8_layPay cX8_layPay 7 (some .int) 4 [.ref (ad 70), .int v1, .int v2] st (some (.int r')) st' := by
  unfold F_X8_layPay at h
  refine ct_of (own := RX8) (by decide) rfl (Nat.le_of_ble_eq_true rfl) ?_
  intro p e s m args below meth c C hr hlk
  refine g_sub (lv2 := [(0, .ref (ad 70)), (1, .int v1), (2, .int v2)]) [0, 1, 2] rfl ?_
  refine g_iconst (v := (0 : Int32)) C dX8_layPay_0 (by decide) ?_
  refine g_istore_n (lv' := fun y => [(3, .int y), (0, .ref (ad 70)), (1, .int v1), (2, .int v2)]) C dX8_layPay_1 rfl (by decide) (fun y => rfl) h ?_
  clear h; intro v21 h
  refine g_sub (lv2 := [(0, .ref (ad 70)), (1, .int v1), (2, .int v2), (3, .int v21)]) [1, 2, 3, 0] rfl ?_
  refine wlp_X8_layPay_2 (N := N) C hr hlk hL ?_ _ _ _ h
  · intro s24 h
    refine g_aload_n C dX8_layPay_29 rfl 0 rfl ?_
    refine g_getI C ok8 dX8_layPay_30 (hL 70 rfl) rfl 0 (by decide) lk_X8_87 rfl ?_
    refine g_iconst (v := (1 : Int32)) C dX8_layPay_33 (by decide) ?_
    refine g_isub C dX8_layPay_34 ?_
    refine g_istore_n (lv' := fun y => [(3, .int y), (0, .ref (ad 70)), (1, .int v1), (2, .int v2)]) C dX8_layPay_35 rfl (by decide) (fun y => rfl) h ?_
    clear h; intro v25 h
    refine g_sub (lv2 := [(0, .ref (ad 70)), (1, .int v1), (2, .int v2), (3, .int v25)]) [1, 2, 3, 0] rfl ?_
    refine wlp_X8_layPay_36 (N := N) C hr hlk hL ?_ _ _ _ h
    · intro s47 h
      refine g_aload_n C dX8_layPay_144 rfl 0 rfl ?_
      refine g_getR (k2 := 81) C ok8 dX8_layPay_145 (hL 70 rfl) rfl 11 (by decide) lk_X8_41 rfl rfl ?_
      refine g_bipush (v := (7 : Int32)) C dX8_layPay_148 (by decide) ?_
      refine g_iald C dX8_layPay_150 (hL 81 rfl) rfl rfl h ?_
      clear h; intro h
      exact g_iret C hr hlk dX8_layPay_151 h
-- X8_swap
def F_X8_swap (v1 : Int32) (v2 : Int32) (st : St) : Option (St) :=
  ck (inb v1 7) (lt (st 85 v1.toNatClampNeg) (fun (v21 : Int32) => ck (inb v2 7) (ck (inb v1 7) (lt (up st 85 v1.toNatClampNeg (st 85 v2.toNatClampNeg)) (fun (s22 : St) => ck (inb v2 7) (lt (up s22 85 v2.toNatClampNeg v21) (fun (s23 : St) => some s23)))))))
set_option maxHeartbeats 4000000 in
set_option maxRecDepth 100000 in
theorem ct_X8_swap (hL : ∀ k, prF k = true → k ∈ L) {v1 : Int32} {v2 : Int32} {st st' : St} (h : F_X8_swap v1 v2 st = some st') : Ct l D cy ad A L yX8_swap cX8_swap 4 none 1 [.ref (ad 70), .int v1, .int v2] st none st' := by
  unfold F_X8_swap at h
  refine ct_of (own := RX8) (by decide) rfl (Nat.le_of_ble_eq_true rfl) ?_
  intro p e s m args below meth c C hr hlk
  refine g_sub (lv2 := [(0, .ref (ad 70)), (1, .int v1), (2, .int v2)]) [0, 1, 2] rfl ?_
  refine g_aload_n C dX8_swap_0 rfl 0 rfl ?_
  refine g_getR (k2 := 85) C ok8 dX8_swap_1 (hL 70 rfl) rfl 16 (by decide) lk_X8_53 rfl rfl ?_
  refine g_iload_n C dX8_swap_4 rfl 1 rfl ?_
  refine g_iald C dX8_swap_5 (hL 85 rfl) rfl rfl h ?_
  clear h; intro h
  refine g_istore_n (lv' := fun y => [(3, .int y), (0, .ref (ad 70)), (1, .int v1), (2, .int v2)]) C dX8_swap_6 rfl (by decide) (fun y => rfl) h ?_
  clear h; intro v21 h
  refine g_aload_n C dX8_swap_7 rfl 1 rfl ?_
  refine g_getR (k2 := 85) C ok8 dX8_swap_8 (hL 70 rfl) rfl 16 (by decide) lk_X8_53 rfl rfl ?_
  refine g_iload_n C dX8_swap_11 rfl 2 rfl ?_
  refine g_aload_n C dX8_swap_12 rfl 1 rfl ?_
  refine g_getR (k2 := 85) C ok8 dX8_swap_13 (hL 70 rfl) rfl 16 (by decide) lk_X8_53 rfl rfl ?_
  refine g_iload_n C dX8_swap_16 rfl 3 rfl ?_
  refine g_iald C dX8_swap_17 (hL 85 rfl) rfl rfl h ?_
  clear h; intro h
  refine g_iast C dX8_swap_18 (hL 85 rfl) rfl rfl h ?_
  clear h; intro s22 h
  refine g_aload_n C dX8_swap_19 rfl 1 rfl ?_
  refine g_getR (k2 := 85) C ok8 dX8_swap_20 (hL 70 rfl) rfl 16 (by decide) lk_X8_53 rfl rfl ?_
  refine g_iload_n C dX8_swap_23 rfl 3 rfl ?_
  refine g_iload_n C dX8_swap_24 rfl 0 rfl ?_
  refine g_iast C dX8_swap_25 (hL 85 rfl) rfl rfl h ?_
  clear h; intro s23 h
  exact g_vret C hr hlk dX8_swap_26 h
-- X8_isNext
def lpB_X8_isNext_4 (st : St) (K31 : Int32 → Option (Int32 × St)) (self : Int32 → Option (Int32 × St)) (v2 : Int32) : Option (Int32 × St) :=
  (if v2 < 0 then K31 v2 else ck (inb v2 7) (ck (inb (v2 + (1 : Int32)) 7) ((if (st 85 v2.toNatClampNeg) ≤ (st 85 (v2 + (1 : Int32)).toNatClampNeg) then K31 v2 else lt (v2 + (-1 : Int32)) (fun (v22 : Int32) => self v22)))))
def lp_X8_isNext_4 (st : St) (K31 : Int32 → Option (Int32 × St)) : Nat → Int32 → Option (Int32 × St) := itf (lpB_X8_isNext_4 st K31) (fun _ => none)
def lpB_X8_isNext_41 (v2 : Int32) (st : St) (K62 : Int32 → Option (Int32 × St)) (self : Int32 → Option (Int32 × St)) (v3 : Int32) : Option (Int32 × St) :=
  ck (inb v3 7) (ck (inb v2 7) ((if (st 85 v2.toNatClampNeg) ≤ (st 85 v3.toNatClampNeg) then K62 v3 else lt (v3 + (-1 : Int32)) (fun (v25 : Int32) => self v25))))
def lp_X8_isNext_41 (v2 : Int32) (st : St) (K62 : Int32 → Option (Int32 × St)) : Nat → Int32 → Option (Int32 × St) := itf (lpB_X8_isNext_41 v2 st K62) (fun _ => none)
def lpB_X8_isNext_78 (self : Int32 → Int32 → St → Option (Int32 × St)) (v4 : Int32) (v5 : Int32) (st : St) : Option (Int32 × St) :=
  (if v5 ≤ v4 then some ((1 : Int32), st) else bs (F_X8_swap v4 v5 st) (fun (s30 : St) => lt (v4 + (1 : Int32)) (fun (v31 : Int32) => lt (v5 + (-1 : Int32)) (fun (v32 : Int32) => self v31 v32 s30))))
def lp_X8_isNext_78 : Nat → Int32 → Int32 → St → Option (Int32 × St) := itf (lpB_X8_isNext_78) (fun _ _ _ => none)
def F_X8_isNext (N : Nat) (v1 : Int32) (st : St) : Option (Int32 × St) :=
  lt (v1 - (2 : Int32)) (fun (v21 : Int32) => lp_X8_isNext_4 st (fun (v23 : Int32) => (if 0 ≤ v23 then lt (v1 - (1 : Int32)) (fun (v24 : Int32) => lp_X8_isNext_41 v23 st (fun (v26 : Int32) => bs (F_X8_swap v23 v26 st) (fun (s27 : St) => lt (v23 + (1 : Int32)) (fun (v28 : Int32) => lt (v1 - (1 : Int32)) (fun (v29 : Int32) => lp_X8_isNext_78  N v28 v29 s27)))) N v24) else some ((0 : Int32), st))) N v21)
set_option maxHeartbeats 4000000 in
set_option maxRecDepth 100000 in
theorem wlp_X8_isNext_4 (C : Cx p s m args c cX8_isNext RX8 6 D cy ad A L) (hr : meth.sig.returnType = (some .boolean)) (hlk : meth.locks = false) (hL : ∀ k, prF k = true → k ∈ L) {N : Nat} {v1 : Int32} {r' : Int32} {st' : St} {st : St} {K31 : Int32 → Option (Int32 × St)} (hK31 : ∀ (v2 : Int32), K31 v2 = some (r', st') → Gm p l e (rmD 2) s m args below meth c D cy ad A L 6 0 0 (MQ below (QG D cy ad A L (some (.int r')) st') args s 0 0 A) 31 [(0, .ref (ad 70)), (1, .int v1), (2, .int v2)] [] st) : ∀ (n : Nat) (v2 : Int32), lp_X8_isNext_4 st K31 n v2 = some (r', st') → Gm p l e (rmD 2) s m args below meth c D cy ad A L 6 0 0 (MQ below (QG D cy ad A L (some (.int r')) st') args s 0 0 A) 4 [(0, .ref (ad 70)), (1, .int v1), (2, .int v2)] [] st := by
  intro n
  induction n with
  | zero => intro v2 h; cases h
  | succ n ih =>
    intro v2 h
    change lpB_X8_isNext_4 st K31 (lp_X8_isNext_4 st K31 n) v2 = some _ at h
    unfold lpB_X8_isNext_4 at h
    refine g_iload_n C dX8_isNext_4 rfl 2 rfl ?_
    refine g_if_lt (tgt := 31) C dX8_isNext_5 (by decide) h ?_ ?_
    · clear h; intro hc5 h
      refine g_sub (lv2 := [(0, .ref (ad 70)), (1, .int v1), (2, .int v2)]) [0, 1, 2] rfl ?_
      exact hK31 _ h
    · clear h; intro hc5 h
      refine g_aload_n C dX8_isNext_8 rfl 0 rfl ?_
      refine g_getR (k2 := 85) C ok8 dX8_isNext_9 (hL 70 rfl) rfl 16 (by decide) lk_X8_53 rfl rfl ?_
      refine g_iload_n C dX8_isNext_12 rfl 2 rfl ?_
      refine g_iald C dX8_isNext_13 (hL 85 rfl) rfl rfl h ?_
      clear h; intro h
      refine g_aload_n C dX8_isNext_14 rfl 0 rfl ?_
      refine g_getR (k2 := 85) C ok8 dX8_isNext_15 (hL 70 rfl) rfl 16 (by decide) lk_X8_53 rfl rfl ?_
      refine g_iload_n C dX8_isNext_18 rfl 2 rfl ?_
      refine g_iconst (v := (1 : Int32)) C dX8_isNext_19 (by decide) ?_
      refine g_iadd C dX8_isNext_20 ?_
      refine g_iald C dX8_isNext_21 (hL 85 rfl) rfl rfl h ?_
      clear h; intro h
      refine g_icmp_le (tgt := 31) C dX8_isNext_22 (by decide) h ?_ ?_
      · clear h; intro hc22 h
        refine g_sub (lv2 := [(0, .ref (ad 70)), (1, .int v1), (2, .int v2)]) [0, 1, 2] rfl ?_
        exact hK31 _ h
      · clear h; intro hc22 h
        refine g_iinc (lv' := fun y => [(2, .int y), (0, .ref (ad 70)), (1, .int v1)]) C dX8_isNext_25 2 rfl rfl (by decide) (fun y => rfl) h ?_
        clear h; intro v22 h
        refine g_goto (tgt := 4) C dX8_isNext_28 (by decide) ?_
        refine g_sub (lv2 := [(0, .ref (ad 70)), (1, .int v1), (2, .int v22)]) [1, 2, 0] rfl ?_
        exact ih _ h
set_option maxHeartbeats 4000000 in
set_option maxRecDepth 100000 in
theorem wlp_X8_isNext_41 (C : Cx p s m args c cX8_isNext RX8 6 D cy ad A L) (hr : meth.sig.returnType = (some .boolean)) (hlk : meth.locks = false) (hL : ∀ k, prF k = true → k ∈ L) {N : Nat} {v1 : Int32} {v2 : Int32} {r' : Int32} {st' : St} {st : St} {K62 : Int32 → Option (Int32 × St)} (hK62 : ∀ (v3 : Int32), K62 v3 = some (r', st') → Gm p l e (rmD 2) s m args below meth c D cy ad A L 6 0 0 (MQ below (QG D cy ad A L (some (.int r')) st') args s 0 0 A) 62 [(0, .ref (ad 70)), (1, .int v1), (2, .int v2), (3, .int v3)] [] st) : ∀ (n : Nat) (v3 : Int32), lp_X8_isNext_41 v2 st K62 n v3 = some (r', st') → Gm p l e (rmD 2) s m args below meth c D cy ad A L 6 0 0 (MQ below (QG D cy ad A L (some (.int r')) st') args s 0 0 A) 41 [(0, .ref (ad 70)), (1, .int v1), (2, .int v2), (3, .int v3)] [] st := by
  intro n
  induction n with
  | zero => intro v3 h; cases h
  | succ n ih =>
    intro v3 h
    change lpB_X8_isNext_41 v2 st K62 (lp_X8_isNext_41 v2 st K62 n) v3 = some _ at h
    unfold lpB_X8_isNext_41 at h
    refine g_aload_n C dX8_isNext_41 rfl 0 rfl ?_
    refine g_getR (k2 := 85) C ok8 dX8_isNext_42 (hL 70 rfl) rfl 16 (by decide) lk_X8_53 rfl rfl ?_
    refine g_iload_n C dX8_isNext_45 rfl 3 rfl ?_
    refine g_iald C dX8_isNext_46 (hL 85 rfl) rfl rfl h ?_
    clear h; intro h
    refine g_aload_n C dX8_isNext_47 rfl 0 rfl ?_
    refine g_getR (k2 := 85) C ok8 dX8_isNext_48 (hL 70 rfl) rfl 16 (by decide) lk_X8_53 rfl rfl ?_
    refine g_iload_n C dX8_isNext_51 rfl 2 rfl ?_
    refine g_iald C dX8_isNext_52 (hL 85 rfl) rfl rfl h ?_
    clear h; intro h
    refine g_icmp_ge (tgt := 62) C dX8_isNext_53 (by decide) h ?_ ?_
    · clear h; intro hc53 h
      refine g_sub (lv2 := [(0, .ref (ad 70)), (1, .int v1), (2, .int v2), (3, .int v3)]) [0, 1, 2, 3] rfl ?_
      exact hK62 _ h
    · clear h; intro hc53 h
      refine g_iinc (lv' := fun y => [(3, .int y), (0, .ref (ad 70)), (1, .int v1), (2, .int v2)]) C dX8_isNext_56 3 rfl rfl (by decide) (fun y => rfl) h ?_
      clear h; intro v25 h
      refine g_goto (tgt := 41) C dX8_isNext_59 (by decide) ?_
      refine g_sub (lv2 := [(0, .ref (ad 70)), (1, .int v1), (2, .int v2), (3, .int v25)]) [1, 2, 3, 0] rfl ?_
      exact ih _ h
set_option maxHeartbeats 4000000 in
set_option maxRecDepth 100000 in
theorem wlp_X8_isNext_78 (C : Cx p s m args c cX8_isNext RX8 6 D cy ad A L) (hr : meth.sig.returnType = (some .boolean)) (hlk : meth.locks = false) (hL : ∀ k, prF k = true → k ∈ L) {N : Nat} {r' : Int32} {st' : St} : ∀ (n : Nat) (v4 : Int32) (v5 : Int32) (st : St), lp_X8_isNext_78 n v4 v5 st = some (r', st') → Gm p l e (rmD 2) s m args below meth c D cy ad A L 6 0 0 (MQ below (QG D cy ad A L (some (.int r')) st') args s 0 0 A) 78 [(0, .ref (ad 70)), (4, .int v4), (5, .int v5)] [] st := by
  intro n
  induction n with
  | zero => intro v4 v5 st h; cases h
  | succ n ih =>
    intro v4 v5 st h
    change lpB_X8_isNext_78 (lp_X8_isNext_78 n) v4 v5 st = some _ at h
    unfold lpB_X8_isNext_78 at h
    refine g_iload C dX8_isNext_78 1 rfl ?_
    refine g_iload C dX8_isNext_80 2 rfl ?_
    refine g_icmp_ge (tgt := 102) C dX8_isNext_82 (by decide) h ?_ ?_
    · clear h; intro hc82 h
      refine g_iconst (v := (1 : Int32)) C dX8_isNext_102 (by decide) ?_
      exact g_zretL C hr hlk rfl dX8_isNext_103 h
    · clear h; intro hc82 h
      refine g_aload_n C dX8_isNext_85 rfl 0 rfl ?_
      refine g_iload C dX8_isNext_86 1 rfl ?_
      refine g_iload C dX8_isNext_88 2 rfl ?_
      replace h := bs_some h
      obtain ⟨s30, h1, h⟩ := h
      refine g_cV (As := [.int v4, .int v5]) (rest := []) (stk2 := []) C mf_X8_swap ok8 rfl lk_X8_135 in_X8_swap se_X8_swap dX8_isNext_90 (hL 70 rfl) rfl rfl rfl rfl ⟨Nat.le_of_ble_eq_true rfl, Nat.le_of_ble_eq_true rfl⟩ (Nat.le_of_ble_eq_true rfl) ⟨Nat.le_refl 0, Nat.le_refl 0⟩ (ct_X8_swap hL h1) ?_
      refine g_iinc (lv' := fun y => [(4, .int y), (0, .ref (ad 70)), (5, .int v5)]) C dX8_isNext_93 1 rfl rfl (by decide) (fun y => rfl) h ?_
      clear h; intro v31 h
      refine g_iinc (lv' := fun y => [(5, .int y), (4, .int v31), (0, .ref (ad 70))]) C dX8_isNext_96 2 rfl rfl (by decide) (fun y => rfl) h ?_
      clear h; intro v32 h
      refine g_goto (tgt := 78) C dX8_isNext_99 (by decide) ?_
      refine g_sub (lv2 := [(0, .ref (ad 70)), (4, .int v31), (5, .int v32)]) [2, 1, 0] rfl ?_
      exact ih _ _ _ h
set_option maxHeartbeats 4000000 in
set_option maxRecDepth 100000 in
theorem ct_X8_isNext {N : Nat} (hL : ∀ k, prF k = true → k ∈ L) {v1 : Int32} {st st' : St} {r' : Int32} (h : F_X8_isNext N v1 st = some (r', st')) : Ct l D cy ad A L yX8_isNext cX8_isNext 6 (some .boolean) 2 [.ref (ad 70), .int v1] st (some (.int r')) st' := by
  unfold F_X8_isNext at h
  refine ct_of (own := RX8) (by decide) rfl (Nat.le_of_ble_eq_true rfl) ?_
  intro p e s m args below meth c C hr hlk
  refine g_sub (lv2 := [(0, .ref (ad 70)), (1, .int v1)]) [0, 1] rfl ?_
  refine g_iload_n C dX8_isNext_0 rfl 1 rfl ?_
  refine g_iconst (v := (2 : Int32)) C dX8_isNext_1 (by decide) ?_
  refine g_isub C dX8_isNext_2 ?_
  refine g_istore_n (lv' := fun y => [(2, .int y), (0, .ref (ad 70)), (1, .int v1)]) C dX8_isNext_3 rfl (by decide) (fun y => rfl) h ?_
  clear h; intro v21 h
  refine g_sub (lv2 := [(0, .ref (ad 70)), (1, .int v1), (2, .int v21)]) [1, 2, 0] rfl ?_
  refine wlp_X8_isNext_4 (N := N) C hr hlk hL ?_ _ _ h
  · intro v23 h
    refine g_iload_n C dX8_isNext_31 rfl 2 rfl ?_
    refine g_if_ge (tgt := 37) C dX8_isNext_32 (by decide) h ?_ ?_
    · clear h; intro hc32 h
      refine g_iload_n C dX8_isNext_37 rfl 1 rfl ?_
      refine g_iconst (v := (1 : Int32)) C dX8_isNext_38 (by decide) ?_
      refine g_isub C dX8_isNext_39 ?_
      refine g_istore_n (lv' := fun y => [(3, .int y), (0, .ref (ad 70)), (1, .int v1), (2, .int v23)]) C dX8_isNext_40 rfl (by decide) (fun y => rfl) h ?_
      clear h; intro v24 h
      refine g_sub (lv2 := [(0, .ref (ad 70)), (1, .int v1), (2, .int v23), (3, .int v24)]) [1, 2, 3, 0] rfl ?_
      refine wlp_X8_isNext_41 (N := N) C hr hlk hL ?_ _ _ h
      · intro v26 h
        refine g_aload_n C dX8_isNext_62 rfl 0 rfl ?_
        refine g_iload_n C dX8_isNext_63 rfl 2 rfl ?_
        refine g_iload_n C dX8_isNext_64 rfl 3 rfl ?_
        replace h := bs_some h
        obtain ⟨s27, h1, h⟩ := h
        refine g_cV (As := [.int v23, .int v26]) (rest := []) (stk2 := []) C mf_X8_swap ok8 rfl lk_X8_135 in_X8_swap se_X8_swap dX8_isNext_65 (hL 70 rfl) rfl rfl rfl rfl ⟨Nat.le_of_ble_eq_true rfl, Nat.le_of_ble_eq_true rfl⟩ (Nat.le_of_ble_eq_true rfl) ⟨Nat.le_refl 0, Nat.le_refl 0⟩ (ct_X8_swap hL h1) ?_
        refine g_iload_n C dX8_isNext_68 rfl 2 rfl ?_
        refine g_iconst (v := (1 : Int32)) C dX8_isNext_69 (by decide) ?_
        refine g_iadd C dX8_isNext_70 ?_
        refine g_istore (lv' := fun y => [(4, .int y), (0, .ref (ad 70)), (1, .int v1), (2, .int v23), (3, .int v26)]) C dX8_isNext_71 (by decide) (fun y => rfl) h ?_
        clear h; intro v28 h
        refine g_iload_n C dX8_isNext_73 rfl 2 rfl ?_
        refine g_iconst (v := (1 : Int32)) C dX8_isNext_74 (by decide) ?_
        refine g_isub C dX8_isNext_75 ?_
        refine g_istore (lv' := fun y => [(5, .int y), (4, .int v28), (0, .ref (ad 70)), (1, .int v1), (2, .int v23), (3, .int v26)]) C dX8_isNext_76 (by decide) (fun y => rfl) h ?_
        clear h; intro v29 h
        refine g_sub (lv2 := [(0, .ref (ad 70)), (4, .int v28), (5, .int v29)]) [2, 1, 0] rfl ?_
        refine wlp_X8_isNext_78 (N := N) C hr hlk hL  _ _ _ _ h
    · clear h; intro hc32 h
      refine g_iconst (v := (0 : Int32)) C dX8_isNext_35 (by decide) ?_
      exact g_zretL C hr hlk rfl dX8_isNext_36 h
end SM
