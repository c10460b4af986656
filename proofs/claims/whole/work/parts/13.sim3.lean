section SM
variable {p : Program} {l : Launch} {e : Env} {s : State} {m : MethodId} {args : Array Value} {below : List Frame} {meth : Method} {c : Code} {D : va_G} {cy : Nat → ClassId} {ad : Nat → Nat} {A : Nat → Prop} {L : List Nat}
-- X1_lay
def lpB_X1_lay_49 (N : Nat) (v1 : Int32) (v2 : Int32) (v3 : Int32) (v4 : Int32) (v5 : Int32) (v6 : Int32) (rec : Int32 → Int32 → Int32 → St → Option (St)) (K204 : St → Option (St)) (self : Int32 → St → Option (St)) (v7 : Int32) (st : St) : Option (St) :=
  (if v5 ≤ v7 then K204 st else (if ((v2 >>> (v7 &&& 31)) &&& (1 : Int32)) = 0 then ck (inb v7 7) ((if ((st 36 v7.toNatClampNeg) &&& (v2 ^^^ (-1 : Int32))) = 0 then ck (inb v4 8) (lt (up st 34 v4.toNatClampNeg v7) (fun (s30 : St) => bs (F_X6_pairCost N v4 34 s30) (fun (r31 : Int32) => lt (v3 + r31) (fun (v32 : Int32) => lt v32 (fun (v33 : Int32) => lt (fun (v34 : Int32) => lt ((if (s30 33 5) ≤ v34 then lt (v7 + (1 : Int32)) (fun (v37 : Int32) => self v37 s30) else lt (up s30 33 5 v34) (fun (s38 : St) => bs (F_X1_keep N s38) (fun (s39 : St) => lt (v7 + (1 : Int32)) (fun (v40 : Int32) => self v40 s39))))) (fun (j36 : Option (St)) => (if (s30 33 5) ≤ v34 then j36 else (if (s30 33 4) ≤ (v1 + (1 : Int32)) then j36 else bs (rec (v1 + (1 : Int32)) (v2 ||| ((1 : Int32) <<< (v7 &&& 31))) v32 s30) (fun (s41 : St) => lt (v7 + (1 : Int32)) (fun (v42 : Int32) => self v42 s41)))))) (fun (j35 : Int32 → Option (St)) => (if (s30 33 5) ≤ v33 then j35 v33 else (if v6 = 0 then j35 v33 else bs (F_X6_forkCost N 34 s30) (fun (r43 : Int32) => lt (v33 + r43) (fun (v44 : Int32) => j35 v44)))))))))) else lt (v7 + (1 : Int32)) (fun (v45 : Int32) => self v45 st))) else lt (v7 + (1 : Int32)) (fun (v29 : Int32) => self v29 st)))
def lp_X1_lay_49 (N : Nat) (v1 : Int32) (v2 : Int32) (v3 : Int32) (v4 : Int32) (v5 : Int32) (v6 : Int32) (rec : Int32 → Int32 → Int32 → St → Option (St)) (K204 : St → Option (St)) : Nat → Int32 → St → Option (St) := itf (lpB_X1_lay_49 N v1 v2 v3 v4 v5 v6 rec K204) (fun _ _ => none)
def FB_X1_lay (N : Nat) (rec : Int32 → Int32 → Int32 → St → Option (St)) (v1 : Int32) (v2 : Int32) (v3 : Int32) (st : St) : Option (St) :=
  ck (inb v1 7) (lt (st 35 v1.toNatClampNeg) (fun (v21 : Int32) => lt (fun (x22 : Int32) => lt x22 (fun (v24 : Int32) => lt (fun (x25 : Int32) => lt x25 (fun (v27 : Int32) => lt (0 : Int32) (fun (v28 : Int32) => lp_X1_lay_49 N v1 v2 v3 v21 v24 v27 rec (fun (s46 : St) => ck (inb v21 8) (lt (up s46 34 v21.toNatClampNeg (7 : Int32)) (fun (s47 : St) => some s47))) N v28 st))) (fun (j26 : Int32 → Option (St)) => (if (v1 + (2 : Int32)) = (st 33 4) then j26 (0 : Int32) else j26 (1 : Int32))))) (fun (j23 : Int32 → Option (St)) => (if v1 = 0 then ck (decide ((2 : Int32) ≠ 0)) (j23 (((st 33 4) + (1 : Int32)) / (2 : Int32))) else j23 (st 33 4)))))
def F_X1_lay (N : Nat) : Nat → Int32 → Int32 → Int32 → St → Option (St) := itf (FB_X1_lay N) (fun _ _ _ _ => none)
set_option maxHeartbeats 4000000 in
set_option maxRecDepth 100000 in
theorem wlp_X1_lay_49 (C : Cx p s m args c cX1_lay RX1 10 D cy ad A L) (hr : meth.sig.returnType = none) (hlk : meth.locks = false) (hL : ∀ k, prF k = true → k ∈ L) {dep : Nat} {rec : Int32 → Int32 → Int32 → St → Option (St)} (hrec : ∀ (a1 a2 a3 : Int32) (st st' : St), rec a1 a2 a3 st = some st' → Ct l D cy ad A L yX1_lay cX1_lay 10 none (2 + dep) [.ref (ad 33), .int a1, .int a2, .int a3] st none st') {N : Nat} {v1 : Int32} {v2 : Int32} {v3 : Int32} {v4 : Int32} {v5 : Int32} {v6 : Int32} {st' : St} {K204 : St → Option (St)} (hK204 : ∀  (st : St), K204 st = some st' → Gm p l e (rmD (2 + (dep + 1))) s m args below meth c D cy ad A L 10 0 0 (MQ below (QG D cy ad A L none st') args s 0 0 A) 204 [(0, .ref (ad 33)), (4, .int v4)] [] st) : ∀ (n : Nat) (v7 : Int32) (st : St), lp_X1_lay_49 N v1 v2 v3 v4 v5 v6 rec K204 n v7 st = some st' → Gm p l e (rmD (2 + (dep + 1))) s m args below meth c D cy ad A L 10 0 0 (MQ below (QG D cy ad A L none st') args s 0 0 A) 49 [(0, .ref (ad 33)), (1, .int v1), (2, .int v2), (3, .int v3), (4, .int v4), (5, .int v5), (6, .int v6), (7, .int v7)] [] st := by
  intro n
  induction n with
  | zero => intro v7 st h; cases h
  | succ n ih =>
    intro v7 st h
    change lpB_X1_lay_49 N v1 v2 v3 v4 v5 v6 rec K204 (lp_X1_lay_49 N v1 v2 v3 v4 v5 v6 rec K204 n) v7 st = some _ at h
    unfold lpB_X1_lay_49 at h
    refine g_iload C dX1_lay_49 7 rfl ?_
    refine g_iload C dX1_lay_51 5 rfl ?_
    refine g_icmp_ge (tgt := 204) C dX1_lay_53 (by decide) h ?_ ?_
    · clear h; intro hc53 h
      refine g_sub (lv2 := [(0, .ref (ad 33)), (4, .int v4)]) [0, 4] rfl ?_
      exact hK204 _ h
    · clear h; intro hc53 h
      refine g_iload_n C dX1_lay_56 rfl 2 rfl ?_
      refine g_iload C dX1_lay_57 7 rfl ?_
      refine g_ishr C dX1_lay_59 ?_
      refine g_iconst (v := (1 : Int32)) C dX1_lay_60 (by decide) ?_
      refine g_iand C dX1_lay_61 ?_
      refine g_if_ne (tgt := 198) C dX1_lay_62 (by decide) h ?_ ?_
      · clear h; intro hc62 h
        refine g_iinc (lv' := fun y => [(7, .int y), (0, .ref (ad 33)), (1, .int v1), (2, .int v2), (3, .int v3), (4, .int v4), (5, .int v5), (6, .int v6)]) C dX1_lay_198 7 rfl rfl (by decide) (fun y => rfl) h ?_
        clear h; intro v29 h
        refine g_goto (tgt := 49) C dX1_lay_201 (by decide) ?_
        refine g_sub (lv2 := [(0, .ref (ad 33)), (1, .int v1), (2, .int v2), (3, .int v3), (4, .int v4), (5, .int v5), (6, .int v6), (7, .int v29)]) [1, 2, 3, 4, 5, 6, 7, 0] rfl ?_
        exact ih _ _ h
      · clear h; intro hc62 h
        refine g_aload_n C dX1_lay_65 rfl 0 rfl ?_
        refine g_getR (k2 := 36) C ok1 dX1_lay_66 (hL 33 rfl) rfl 3 (by decide) lk_X1_18 rfl rfl ?_
        refine g_iload C dX1_lay_69 7 rfl ?_
        refine g_iald C dX1_lay_71 (hL 36 rfl) rfl rfl h ?_
        clear h; intro h
        refine g_iload_n C dX1_lay_72 rfl 2 rfl ?_
        refine g_iconst (v := (-1 : Int32)) C dX1_lay_73 (by decide) ?_
        refine g_ixor C dX1_lay_74 ?_
        refine g_iand C dX1_lay_75 ?_
        refine g_if_eq (tgt := 82) C dX1_lay_76 (by decide) h ?_ ?_
        · clear h; intro hc76 h
          refine g_aload_n C dX1_lay_82 rfl 0 rfl ?_
          refine g_getR (k2 := 34) C ok1 dX1_lay_83 (hL 33 rfl) rfl 1 (by decide) lk_X1_11 rfl rfl ?_
          refine g_iload C dX1_lay_86 4 rfl ?_
          refine g_iload C dX1_lay_88 7 rfl ?_
          refine g_iast C dX1_lay_90 (hL 34 rfl) rfl rfl h ?_
          clear h; intro s30 h
          refine g_iload_n C dX1_lay_91 rfl 3 rfl ?_
          refine g_aload_n C dX1_lay_92 rfl 0 rfl ?_
          refine g_getR (k2 := 25) C ok1 dX1_lay_93 (hL 33 rfl) rfl 0 (by decide) lk_X1_21 rfl rfl ?_
          refine g_iload C dX1_lay_96 4 rfl ?_
          refine g_aload_n C dX1_lay_98 rfl 0 rfl ?_
          refine g_getR (k2 := 34) C ok1 dX1_lay_99 (hL 33 rfl) rfl 1 (by decide) lk_X1_11 rfl rfl ?_
          replace h := bs_some h
          obtain ⟨r31, h1, h⟩ := h
          refine g_cV (As := [.int v4, .ref (ad 34)]) (rest := [.int v3]) (stk2 := [.int r31, .int v3]) C mf_X6_pairCost ok6 rfl lk_X1_55 in_X6_pairCost se_X6_pairCost dX1_lay_102 (hL 25 rfl) rfl rfl rfl rfl ⟨by show _ ≤ _ + _; omega, by show _ ≤ 40 * _; omega⟩ (Nat.le_of_ble_eq_true rfl) ⟨Nat.le_refl 0, Nat.le_refl 0⟩ (ct_X6_pairCost hL h1) ?_
          refine g_iadd C dX1_lay_105 ?_
          refine g_istore (lv' := fun y => [(8, .int y), (0, .ref (ad 33)), (1, .int v1), (2, .int v2), (3, .int v3), (4, .int v4), (5, .int v5), (6, .int v6), (7, .int v7)]) C dX1_lay_106 (by decide) (fun y => rfl) h ?_
          clear h; intro v32 h
          refine g_iload C dX1_lay_108 0 rfl ?_
          refine g_istore (lv' := fun y => [(9, .int y), (8, .int v32), (0, .ref (ad 33)), (1, .int v1), (2, .int v2), (3, .int v3), (4, .int v4), (5, .int v5), (6, .int v6), (7, .int v7)]) C dX1_lay_110 (by decide) (fun y => rfl) h ?_
          clear h; intro v33 h
          refine g_iload C dX1_lay_112 0 rfl ?_
          refine g_aload_n C dX1_lay_114 rfl 2 rfl ?_
          refine g_getI C ok1 dX1_lay_115 (hL 33 rfl) rfl 5 (by decide) lk_X1_41 rfl ?_
          replace h := lt_ex h
          obtain ⟨j35, ej35, h⟩ := h
          have hj35 : ∀ (v34 : Int32), j35 v34 = some st' → Gm p l e (rmD (2 + (dep + 1))) s m args below meth c D cy ad A L 10 0 0 (MQ below (QG D cy ad A L none st') args s 0 0 A) 142 [(0, .ref (ad 33)), (1, .int v1), (2, .int v2), (3, .int v3), (4, .int v4), (5, .int v5), (6, .int v6), (7, .int v7), (8, .int v32), (9, .int v34)] [] s30 := by
            intro v34 h
            rw [ej35] at h
            dsimp only at h
            refine g_iload C dX1_lay_142 9 rfl ?_
            refine g_aload_n C dX1_lay_144 rfl 0 rfl ?_
            refine g_getI C ok1 dX1_lay_145 (hL 33 rfl) rfl 5 (by decide) lk_X1_41 rfl ?_
            replace h := lt_ex h
            obtain ⟨j36, ej36, h⟩ := h
            have hj36 : j36 = some st' → Gm p l e (rmD (2 + (dep + 1))) s m args below meth c D cy ad A L 10 0 0 (MQ below (QG D cy ad A L none st') args s 0 0 A) 179 [(0, .ref (ad 33)), (1, .int v1), (2, .int v2), (3, .int v3), (4, .int v4), (5, .int v5), (6, .int v6), (7, .int v7), (9, .int v34)] [] s30 := by
              intro h
              rw [ej36] at h
              skip
              refine g_iload C dX1_lay_179 8 rfl ?_
              refine g_aload_n C dX1_lay_181 rfl 0 rfl ?_
              refine g_getI C ok1 dX1_lay_182 (hL 33 rfl) rfl 5 (by decide) lk_X1_41 rfl ?_
              refine g_icmp_ge (tgt := 198) C dX1_lay_185 (by decide) h ?_ ?_
              · clear h; intro hc185 h
                refine g_iinc (lv' := fun y => [(7, .int y), (0, .ref (ad 33)), (1, .int v1), (2, .int v2), (3, .int v3), (4, .int v4), (5, .int v5), (6, .int v6), (9, .int v34)]) C dX1_lay_198 7 rfl rfl (by decide) (fun y => rfl) h ?_
                clear h; intro v37 h
                refine g_goto (tgt := 49) C dX1_lay_201 (by decide) ?_
                refine g_sub (lv2 := [(0, .ref (ad 33)), (1, .int v1), (2, .int v2), (3, .int v3), (4, .int v4), (5, .int v5), (6, .int v6), (7, .int v37)]) [1, 2, 3, 4, 5, 6, 7, 0] rfl ?_
                exact ih _ _ h
              · clear h; intro hc185 h
                refine g_aload_n C dX1_lay_188 rfl 0 rfl ?_
                refine g_iload C dX1_lay_189 8 rfl ?_
                refine g_put (ty := .int) C ok1 dX1_lay_191 (hL 33 rfl) rfl 5 (by decide) lk_X1_41 rfl (tyX1_ok 5 (by decide)) rfl rfl rfl h ?_
                clear h; intro s38 h
                refine g_aload_n C dX1_lay_194 rfl 0 rfl ?_
                replace h := bs_some h
                obtain ⟨s39, h1, h⟩ := h
                refine g_cV (As := []) (rest := []) (stk2 := []) C mf_X1_keep ok1 rfl lk_X1_63 in_X1_keep se_X1_keep dX1_lay_195 (hL 33 rfl) rfl rfl rfl rfl ⟨by show _ ≤ _ + _; omega, by show _ ≤ 40 * _; omega⟩ (Nat.le_of_ble_eq_true rfl) ⟨Nat.le_refl 0, Nat.le_refl 0⟩ (ct_X1_keep hL h1) ?_
                refine g_iinc (lv' := fun y => [(7, .int y), (0, .ref (ad 33)), (1, .int v1), (2, .int v2), (3, .int v3), (4, .int v4), (5, .int v5), (6, .int v6), (9, .int v34)]) C dX1_lay_198 7 rfl rfl (by decide) (fun y => rfl) h ?_
                clear h; intro v40 h
                refine g_goto (tgt := 49) C dX1_lay_201 (by decide) ?_
                refine g_sub (lv2 := [(0, .ref (ad 33)), (1, .int v1), (2, .int v2), (3, .int v3), (4, .int v4), (5, .int v5), (6, .int v6), (7, .int v40)]) [1, 2, 3, 4, 5, 6, 7, 0] rfl ?_
                exact ih _ _ h
            refine g_icmp_ge (tgt := 179) C dX1_lay_148 (by decide) h ?_ ?_
            · clear h; intro hc148 h
              refine g_sub (lv2 := [(0, .ref (ad 33)), (1, .int v1), (2, .int v2), (3, .int v3), (4, .int v4), (5, .int v5), (6, .int v6), (7, .int v7), (9, .int v34)]) [0, 1, 2, 3, 4, 5, 6, 7, 9] rfl ?_
              exact hj36  h
            · clear h; intro hc148 h
              refine g_iload_n C dX1_lay_151 rfl 1 rfl ?_
              refine g_iconst (v := (1 : Int32)) C dX1_lay_152 (by decide) ?_
              refine g_iadd C dX1_lay_153 ?_
              refine g_aload_n C dX1_lay_154 rfl 0 rfl ?_
              refine g_getI C ok1 dX1_lay_155 (hL 33 rfl) rfl 4 (by decide) lk_X1_37 rfl ?_
              refine g_icmp_ge (tgt := 179) C dX1_lay_158 (by decide) h ?_ ?_
              · clear h; intro hc158 h
                refine g_sub (lv2 := [(0, .ref (ad 33)), (1, .int v1), (2, .int v2), (3, .int v3), (4, .int v4), (5, .int v5), (6, .int v6), (7, .int v7), (9, .int v34)]) [0, 1, 2, 3, 4, 5, 6, 7, 9] rfl ?_
                exact hj36  h
              · clear h; intro hc158 h
                refine g_aload_n C dX1_lay_161 rfl 0 rfl ?_
                refine g_iload_n C dX1_lay_162 rfl 1 rfl ?_
                refine g_iconst (v := (1 : Int32)) C dX1_lay_163 (by decide) ?_
                refine g_iadd C dX1_lay_164 ?_
                refine g_iload_n C dX1_lay_165 rfl 2 rfl ?_
                refine g_iconst (v := (1 : Int32)) C dX1_lay_166 (by decide) ?_
                refine g_iload C dX1_lay_167 7 rfl ?_
                refine g_ishl C dX1_lay_169 ?_
                refine g_ior C dX1_lay_170 ?_
                refine g_iload C dX1_lay_171 8 rfl ?_
                replace h := bs_some h
                obtain ⟨s41, h1, h⟩ := h
                refine g_cV (As := [.int (v1 + (1 : Int32)), .int (v2 ||| ((1 : Int32) <<< (v7 &&& 31))), .int v32]) (rest := []) (stk2 := []) C mf_X1_lay ok1 rfl lk_X1_47 in_X1_lay se_X1_lay dX1_lay_173 (hL 33 rfl) rfl rfl rfl rfl ⟨by show _ ≤ _ + _; omega, by show _ ≤ 40 * _; omega⟩ (Nat.le_of_ble_eq_true rfl) ⟨Nat.le_refl 0, Nat.le_refl 0⟩ (hrec _ _ _ _ _ h1) ?_
                refine g_goto (tgt := 198) C dX1_lay_176 (by decide) ?_
                refine g_iinc (lv' := fun y => [(7, .int y), (0, .ref (ad 33)), (1, .int v1), (2, .int v2), (3, .int v3), (4, .int v4), (5, .int v5), (6, .int v6), (8, .int v32), (9, .int v34)]) C dX1_lay_198 7 rfl rfl (by decide) (fun y => rfl) h ?_
                clear h; intro v42 h
                refine g_goto (tgt := 49) C dX1_lay_201 (by decide) ?_
                refine g_sub (lv2 := [(0, .ref (ad 33)), (1, .int v1), (2, .int v2), (3, .int v3), (4, .int v4), (5, .int v5), (6, .int v6), (7, .int v42)]) [1, 2, 3, 4, 5, 6, 7, 0] rfl ?_
                exact ih _ _ h
          refine g_icmp_ge (tgt := 142) C dX1_lay_118 (by decide) h ?_ ?_
          · clear h; intro hc118 h
            refine g_sub (lv2 := [(0, .ref (ad 33)), (1, .int v1), (2, .int v2), (3, .int v3), (4, .int v4), (5, .int v5), (6, .int v6), (7, .int v7), (8, .int v32), (9, .int v33)]) [2, 3, 4, 5, 6, 7, 8, 9, 1, 0] rfl ?_
            exact hj35 _ h
          · clear h; intro hc118 h
            refine g_iload C dX1_lay_121 8 rfl ?_
            refine g_if_eq (tgt := 142) C dX1_lay_123 (by decide) h ?_ ?_
            · clear h; intro hc123 h
              refine g_sub (lv2 := [(0, .ref (ad 33)), (1, .int v1), (2, .int v2), (3, .int v3), (4, .int v4), (5, .int v5), (6, .int v6), (7, .int v7), (8, .int v32), (9, .int v33)]) [2, 3, 4, 5, 6, 7, 8, 9, 1, 0] rfl ?_
              exact hj35 _ h
            · clear h; intro hc123 h
              refine g_iload C dX1_lay_126 0 rfl ?_
              refine g_aload_n C dX1_lay_128 rfl 2 rfl ?_
              refine g_getR (k2 := 25) C ok1 dX1_lay_129 (hL 33 rfl) rfl 0 (by decide) lk_X1_21 rfl rfl ?_
              refine g_aload_n C dX1_lay_132 rfl 2 rfl ?_
              refine g_getR (k2 := 34) C ok1 dX1_lay_133 (hL 33 rfl) rfl 1 (by decide) lk_X1_11 rfl rfl ?_
              replace h := bs_some h
              obtain ⟨r43, h1, h⟩ := h
              refine g_cV (As := [.ref (ad 34)]) (rest := [.int v33]) (stk2 := [.int r43, .int v33]) C mf_X6_forkCost ok6 rfl lk_X1_59 in_X6_forkCost se_X6_forkCost dX1_lay_136 (hL 25 rfl) rfl rfl rfl rfl ⟨by show _ ≤ _ + _; omega, by show _ ≤ 40 * _; omega⟩ (Nat.le_of_ble_eq_true rfl) ⟨Nat.le_refl 0, Nat.le_refl 0⟩ (ct_X6_forkCost hL h1) ?_
              refine g_iadd C dX1_lay_139 ?_
              refine g_istore (lv' := fun y => [(9, .int y), (8, .int v32), (0, .ref (ad 33)), (1, .int v1), (2, .int v2), (3, .int v3), (4, .int v4), (5, .int v5), (6, .int v6), (7, .int v7)]) C dX1_lay_140 (by decide) (fun y => rfl) h ?_
              clear h; intro v44 h
              refine g_sub (lv2 := [(0, .ref (ad 33)), (1, .int v1), (2, .int v2), (3, .int v3), (4, .int v4), (5, .int v5), (6, .int v6), (7, .int v7), (8, .int v32), (9, .int v44)]) [2, 3, 4, 5, 6, 7, 8, 9, 1, 0] rfl ?_
              exact hj35 _ h
        · clear h; intro hc76 h
          refine g_goto (tgt := 198) C dX1_lay_79 (by decide) ?_
          refine g_iinc (lv' := fun y => [(7, .int y), (0, .ref (ad 33)), (1, .int v1), (2, .int v2), (3, .int v3), (4, .int v4), (5, .int v5), (6, .int v6)]) C dX1_lay_198 7 rfl rfl (by decide) (fun y => rfl) h ?_
          clear h; intro v45 h
          refine g_goto (tgt := 49) C dX1_lay_201 (by decide) ?_
          refine g_sub (lv2 := [(0, .ref (ad 33)), (1, .int v1), (2, .int v2), (3, .int v3), (4, .int v4), (5, .int v5), (6, .int v6), (7, .int v45)]) [1, 2, 3, 4, 5, 6, 7, 0] rfl ?_
          exact ih _ _ h
set_option maxHeartbeats 4000000 in
set_option maxRecDepth 100000 in
theorem ct_X1_lay {N : Nat} (hL : ∀ k, prF k = true → k ∈ L) : ∀ (dep : Nat) (v1 : Int32) (v2 : Int32) (v3 : Int32) (st st' : St), F_X1_lay N dep v1 v2 v3 st = some st' → Ct l D cy ad A L yX1_lay cX1_lay 10 none (2 + dep) [.ref (ad 33), .int v1, .int v2, .int v3] st none st' := by
  intro dep
  induction dep with
  | zero => intro v1 v2 v3 st st' h; cases h
  | succ dep hrec =>
    intro v1 v2 v3 st st' h
    change FB_X1_lay N (F_X1_lay N dep) v1 v2 v3 st = some _ at h
    unfold FB_X1_lay at h
    generalize F_X1_lay N dep = rec at h hrec
    refine ct_of (own := RX1) (by decide) rfl (Nat.le_of_ble_eq_true rfl) ?_
    intro p e s m args below meth c C hr hlk
    refine g_sub (lv2 := [(0, .ref (ad 33)), (1, .int v1), (2, .int v2), (3, .int v3)]) [0, 1, 2, 3] rfl ?_
    refine g_aload_n C dX1_lay_0 rfl 0 rfl ?_
    refine g_getR (k2 := 35) C ok1 dX1_lay_1 (hL 33 rfl) rfl 2 (by decide) lk_X1_15 rfl rfl ?_
    refine g_iload_n C dX1_lay_4 rfl 1 rfl ?_
    refine g_iald C dX1_lay_5 (hL 35 rfl) rfl rfl h ?_
    clear h; intro h
    refine g_istore (lv' := fun y => [(4, .int y), (0, .ref (ad 33)), (1, .int v1), (2, .int v2), (3, .int v3)]) C dX1_lay_6 (by decide) (fun y => rfl) h ?_
    clear h; intro v21 h
    refine g_iload_n C dX1_lay_8 rfl 2 rfl ?_
    replace h := lt_ex h
    obtain ⟨j23, ej23, h⟩ := h
    have hj23 : ∀ (x22 : Int32), j23 x22 = some st' → Gm p l e (rmD (2 + (dep + 1))) s m args below meth c D cy ad A L 10 0 0 (MQ below (QG D cy ad A L none st') args s 0 0 A) 27 [(0, .ref (ad 33)), (1, .int v1), (2, .int v2), (3, .int v3), (4, .int v21)] [.int x22] st := by
      intro x22 h
      rw [ej23] at h
      dsimp only at h
      refine g_istore (lv' := fun y => [(5, .int y), (0, .ref (ad 33)), (1, .int v1), (2, .int v2), (3, .int v3), (4, .int v21)]) C dX1_lay_27 (by decide) (fun y => rfl) h ?_
      clear h; intro v24 h
      refine g_iload_n C dX1_lay_29 rfl 2 rfl ?_
      refine g_iconst (v := (2 : Int32)) C dX1_lay_30 (by decide) ?_
      refine g_iadd C dX1_lay_31 ?_
      refine g_aload_n C dX1_lay_32 rfl 1 rfl ?_
      refine g_getI C ok1 dX1_lay_33 (hL 33 rfl) rfl 4 (by decide) lk_X1_37 rfl ?_
      replace h := lt_ex h
      obtain ⟨j26, ej26, h⟩ := h
      have hj26 : ∀ (x25 : Int32), j26 x25 = some st' → Gm p l e (rmD (2 + (dep + 1))) s m args below meth c D cy ad A L 10 0 0 (MQ below (QG D cy ad A L none st') args s 0 0 A) 44 [(0, .ref (ad 33)), (1, .int v1), (2, .int v2), (3, .int v3), (4, .int v21), (5, .int v24)] [.int x25] st := by
        intro x25 h
        rw [ej26] at h
        dsimp only at h
        refine g_istore (lv' := fun y => [(6, .int y), (0, .ref (ad 33)), (1, .int v1), (2, .int v2), (3, .int v3), (4, .int v21), (5, .int v24)]) C dX1_lay_44 (by decide) (fun y => rfl) h ?_
        clear h; intro v27 h
        refine g_iconst (v := (0 : Int32)) C dX1_lay_46 (by decide) ?_
        refine g_istore (lv' := fun y => [(7, .int y), (6, .int v27), (0, .ref (ad 33)), (1, .int v1), (2, .int v2), (3, .int v3), (4, .int v21), (5, .int v24)]) C dX1_lay_47 (by decide) (fun y => rfl) h ?_
        clear h; intro v28 h
        refine g_sub (lv2 := [(0, .ref (ad 33)), (1, .int v1), (2, .int v2), (3, .int v3), (4, .int v21), (5, .int v24), (6, .int v27), (7, .int v28)]) [2, 3, 4, 5, 6, 7, 1, 0] rfl ?_
        refine wlp_X1_lay_49 (N := N) C hr hlk hL hrec ?_ _ _ _ h
        · intro s46 h
          refine g_aload_n C dX1_lay_204 rfl 0 rfl ?_
          refine g_getR (k2 := 34) C ok1 dX1_lay_205 (hL 33 rfl) rfl 1 (by decide) lk_X1_11 rfl rfl ?_
          refine g_iload C dX1_lay_208 1 rfl ?_
          refine g_bipush (v := (7 : Int32)) C dX1_lay_210 (by decide) ?_
          refine g_iast C dX1_lay_212 (hL 34 rfl) rfl rfl h ?_
          clear h; intro s47 h
          exact g_vret C hr hlk dX1_lay_213 h
      refine g_icmp_eq (tgt := 43) C dX1_lay_36 (by decide) h ?_ ?_
      · clear h; intro hc36 h
        refine g_iconst (v := (0 : Int32)) C dX1_lay_43 (by decide) ?_
        refine g_sub (lv2 := [(0, .ref (ad 33)), (1, .int v1), (2, .int v2), (3, .int v3), (4, .int v21), (5, .int v24)]) [1, 2, 3, 4, 5, 0] rfl ?_
        exact hj26 _ h
      · clear h; intro hc36 h
        refine g_iconst (v := (1 : Int32)) C dX1_lay_39 (by decide) ?_
        refine g_goto (tgt := 44) C dX1_lay_40 (by decide) ?_
        refine g_sub (lv2 := [(0, .ref (ad 33)), (1, .int v1), (2, .int v2), (3, .int v3), (4, .int v21), (5, .int v24)]) [1, 2, 3, 4, 5, 0] rfl ?_
        exact hj26 _ h
    refine g_if_ne (tgt := 23) C dX1_lay_9 (by decide) h ?_ ?_
    · clear h; intro hc9 h
      refine g_aload_n C dX1_lay_23 rfl 1 rfl ?_
      refine g_getI C ok1 dX1_lay_24 (hL 33 rfl) rfl 4 (by decide) lk_X1_37 rfl ?_
      refine g_sub (lv2 := [(0, .ref (ad 33)), (1, .int v1), (2, .int v2), (3, .int v3), (4, .int v21)]) [1, 2, 3, 4, 0] rfl ?_
      exact hj23 _ h
    · clear h; intro hc9 h
      refine g_aload_n C dX1_lay_12 rfl 1 rfl ?_
      refine g_getI C ok1 dX1_lay_13 (hL 33 rfl) rfl 4 (by decide) lk_X1_37 rfl ?_
      refine g_iconst (v := (1 : Int32)) C dX1_lay_16 (by decide) ?_
      refine g_iadd C dX1_lay_17 ?_
      refine g_iconst (v := (2 : Int32)) C dX1_lay_18 (by decide) ?_
      refine g_idiv C dX1_lay_19 h ?_
      clear h; intro h
      refine g_goto (tgt := 27) C dX1_lay_20 (by decide) ?_
      refine g_sub (lv2 := [(0, .ref (ad 33)), (1, .int v1), (2, .int v2), (3, .int v3), (4, .int v21)]) [1, 2, 3, 4, 0] rfl ?_
      exact hj23 _ h
-- X1_leastBelow
def lpB_X1_leastBelow_20 (v3 : Int32) (K63 : St → Option (Int32 × St)) (self : Int32 → St → Option (Int32 × St)) (v5 : Int32) (st : St) : Option (Int32 × St) :=
  (if (7 : Int32) ≤ v5 then K63 st else (if ((v3 >>> (v5 &&& 31)) &&& (1 : Int32)) = 0 then lt (v5 + (1 : Int32)) (fun (v24 : Int32) => self v24 st) else ck (inb (st 33 4) 7) (lt (up st 35 (st 33 4).toNatClampNeg v5) (fun (s25 : St) => lt (up s25 33 4 ((s25 33 4) + (1 : Int32))) (fun (s26 : St) => lt (v5 + (1 : Int32)) (fun (v27 : Int32) => self v27 s26))))))
def lp_X1_leastBelow_20 (v3 : Int32) (K63 : St → Option (Int32 × St)) : Nat → Int32 → St → Option (Int32 × St) := itf (lpB_X1_leastBelow_20 v3 K63) (fun _ _ => none)
def F_X1_leastBelow (N : Nat) (v1 : Int32) (v3 : Int32) (v4 : Int32) (st : St) : Option (Int32 × St) :=
  bs (F_X6_trace N v3 v4 (0 : Int32) st) (fun (s21 : St) => lt (up s21 33 4 (0 : Int32)) (fun (s22 : St) => lt (0 : Int32) (fun (v23 : Int32) => lp_X1_leastBelow_20 v3 (fun (s28 : St) => lt (up s28 33 5 (v1 - (1 : Int32))) (fun (s29 : St) => lt (fun (s30 : St) => some (((s30 33 5) + (1 : Int32)), s30)) (fun (j31 : St → Option (Int32 × St)) => (if (s29 33 4) ≤ 0 then j31 s29 else bs (F_X1_findTwins N s29) (fun (s32 : St) => bs (F_X1_lay N 9 (0 : Int32) (0 : Int32) (0 : Int32) s32) (fun (s33 : St) => j31 s33)))))) N v23 s22)))
set_option maxHeartbeats 4000000 in
set_option maxRecDepth 100000 in
theorem wlp_X1_leastBelow_20 (C : Cx p s m args c cX1_leastBelow RX1 6 D cy ad A L) (hr : meth.sig.returnType = (some .int)) (hlk : meth.locks = false) (hL : ∀ k, prF k = true → k ∈ L) {N : Nat} {v1 : Int32} {v3 : Int32} {r' : Int32} {st' : St} {K63 : St → Option (Int32 × St)} (hK63 : ∀  (st : St), K63 st = some (r', st') → Gm p l e (rmD 12) s m args below meth c D cy ad A L 6 0 0 (MQ below (QG D cy ad A L (some (.int r')) st') args s 0 0 A) 63 [(0, .ref (ad 33)), (1, .int v1)] [] st) : ∀ (n : Nat) (v5 : Int32) (st : St), lp_X1_leastBelow_20 v3 K63 n v5 st = some (r', st') → Gm p l e (rmD 12) s m args below meth c D cy ad A L 6 0 0 (MQ below (QG D cy ad A L (some (.int r')) st') args s 0 0 A) 20 [(0, .ref (ad 33)), (1, .int v1), (3, .int v3), (5, .int v5)] [] st := by
  intro n
  induction n with
  | zero => intro v5 st h; cases h
  | succ n ih =>
    intro v5 st h
    change lpB_X1_leastBelow_20 v3 K63 (lp_X1_leastBelow_20 v3 K63 n) v5 st = some _ at h
    unfold lpB_X1_leastBelow_20 at h
    refine g_iload C dX1_leastBelow_20 3 rfl ?_
    refine g_bipush (v := (7 : Int32)) C dX1_leastBelow_22 (by decide) ?_
    refine g_icmp_ge (tgt := 63) C dX1_leastBelow_24 (by decide) h ?_ ?_
    · clear h; intro hc24 h
      refine g_sub (lv2 := [(0, .ref (ad 33)), (1, .int v1)]) [0, 1] rfl ?_
      exact hK63 _ h
    · clear h; intro hc24 h
      refine g_iload_n C dX1_leastBelow_27 rfl 2 rfl ?_
      refine g_iload C dX1_leastBelow_28 3 rfl ?_
      refine g_ishr C dX1_leastBelow_30 ?_
      refine g_iconst (v := (1 : Int32)) C dX1_leastBelow_31 (by decide) ?_
      refine g_iand C dX1_leastBelow_32 ?_
      refine g_if_eq (tgt := 57) C dX1_leastBelow_33 (by decide) h ?_ ?_
      · clear h; intro hc33 h
        refine g_iinc (lv' := fun y => [(5, .int y), (0, .ref (ad 33)), (1, .int v1), (3, .int v3)]) C dX1_leastBelow_57 3 rfl rfl (by decide) (fun y => rfl) h ?_
        clear h; intro v24 h
        refine g_goto (tgt := 20) C dX1_leastBelow_60 (by decide) ?_
        refine g_sub (lv2 := [(0, .ref (ad 33)), (1, .int v1), (3, .int v3), (5, .int v24)]) [1, 2, 3, 0] rfl ?_
        exact ih _ _ h
      · clear h; intro hc33 h
        refine g_aload_n C dX1_leastBelow_36 rfl 0 rfl ?_
        refine g_getR (k2 := 35) C ok1 dX1_leastBelow_37 (hL 33 rfl) rfl 2 (by decide) lk_X1_15 rfl rfl ?_
        refine g_aload_n C dX1_leastBelow_40 rfl 0 rfl ?_
        refine g_getI C ok1 dX1_leastBelow_41 (hL 33 rfl) rfl 4 (by decide) lk_X1_37 rfl ?_
        refine g_iload C dX1_leastBelow_44 3 rfl ?_
        refine g_iast C dX1_leastBelow_46 (hL 35 rfl) rfl rfl h ?_
        clear h; intro s25 h
        refine g_aload_n C dX1_leastBelow_47 rfl 0 rfl ?_
        refine g_dup C dX1_leastBelow_48 rfl ?_
        refine g_getI C ok1 dX1_leastBelow_49 (hL 33 rfl) rfl 4 (by decide) lk_X1_37 rfl ?_
        refine g_iconst (v := (1 : Int32)) C dX1_leastBelow_52 (by decide) ?_
        refine g_iadd C dX1_leastBelow_53 ?_
        refine g_put (ty := .int) C ok1 dX1_leastBelow_54 (hL 33 rfl) rfl 4 (by decide) lk_X1_37 rfl (tyX1_ok 4 (by decide)) rfl rfl rfl h ?_
        clear h; intro s26 h
        refine g_iinc (lv' := fun y => [(5, .int y), (0, .ref (ad 33)), (1, .int v1), (3, .int v3)]) C dX1_leastBelow_57 3 rfl rfl (by decide) (fun y => rfl) h ?_
        clear h; intro v27 h
        refine g_goto (tgt := 20) C dX1_leastBelow_60 (by decide) ?_
        refine g_sub (lv2 := [(0, .ref (ad 33)), (1, .int v1), (3, .int v3), (5, .int v27)]) [1, 2, 3, 0] rfl ?_
        exact ih _ _ h
set_option maxHeartbeats 4000000 in
set_option maxRecDepth 100000 in
theorem ct_X1_leastBelow {N : Nat} (hL : ∀ k, prF k = true → k ∈ L) {v1 : Int32} {v3 : Int32} {v4 : Int32} {st st' : St} {r' : Int32} (h : F_X1_leastBelow N v1 v3 v4 st = some (r', st')) : Ct l D cy ad A L yX1_leastBelow cX1_leastBelow 6 (some .int) 12 [.ref (ad 33), .int v1, .ref (ad 1), .int v3, .int v4] st (some (.int r')) st' := by
  unfold F_X1_leastBelow at h
  refine ct_of (own := RX1) (by decide) rfl (Nat.le_of_ble_eq_true rfl) ?_
  intro p e s m args below meth c C hr hlk
  refine g_sub (lv2 := [(0, .ref (ad 33)), (1, .int v1), (2, .ref (ad 1)), (3, .int v3), (4, .int v4)]) [0, 1, 2, 3, 4] rfl ?_
  refine g_aload_n C dX1_leastBelow_0 rfl 0 rfl ?_
  refine g_getR (k2 := 25) C ok1 dX1_leastBelow_1 (hL 33 rfl) rfl 0 (by decide) lk_X1_21 rfl rfl ?_
  refine g_aload_n C dX1_leastBelow_4 rfl 2 rfl ?_
  refine g_iload_n C dX1_leastBelow_5 rfl 3 rfl ?_
  refine g_iload C dX1_leastBelow_6 4 rfl ?_
  refine g_iconst (v := (0 : Int32)) C dX1_leastBelow_8 (by decide) ?_
  replace h := bs_some h
  obtain ⟨s21, h1, h⟩ := h
  refine g_cV (As := [.ref (ad 1), .int v3, .int v4, .int (0 : Int32)]) (rest := []) (stk2 := []) C mf_X6_trace ok6 rfl lk_X1_33 in_X6_trace se_X6_trace dX1_leastBelow_9 (hL 25 rfl) rfl rfl rfl rfl ⟨Nat.le_of_ble_eq_true rfl, Nat.le_of_ble_eq_true rfl⟩ (Nat.le_of_ble_eq_true rfl) ⟨Nat.le_refl 0, Nat.le_refl 0⟩ (ct_X6_trace hL h1) ?_
  refine g_aload_n C dX1_leastBelow_12 rfl 0 rfl ?_
  refine g_iconst (v := (0 : Int32)) C dX1_leastBelow_13 (by decide) ?_
  refine g_put (ty := .int) C ok1 dX1_leastBelow_14 (hL 33 rfl) rfl 4 (by decide) lk_X1_37 rfl (tyX1_ok 4 (by decide)) rfl rfl rfl h ?_
  clear h; intro s22 h
  refine g_iconst (v := (0 : Int32)) C dX1_leastBelow_17 (by decide) ?_
  refine g_istore (lv' := fun y => [(5, .int y), (0, .ref (ad 33)), (1, .int v1), (2, .ref (ad 1)), (3, .int v3), (4, .int v4)]) C dX1_leastBelow_18 (by decide) (fun y => rfl) h ?_
  clear h; intro v23 h
  refine g_sub (lv2 := [(0, .ref (ad 33)), (1, .int v1), (3, .int v3), (5, .int v23)]) [1, 2, 4, 0] rfl ?_
  refine wlp_X1_leastBelow_20 (N := N) C hr hlk hL ?_ _ _ _ h
  · intro s28 h
    refine g_aload_n C dX1_leastBelow_63 rfl 0 rfl ?_
    refine g_iload_n C dX1_leastBelow_64 rfl 1 rfl ?_
    refine g_iconst (v := (1 : Int32)) C dX1_leastBelow_65 (by decide) ?_
    refine g_isub C dX1_leastBelow_66 ?_
    refine g_put (ty := .int) C ok1 dX1_leastBelow_67 (hL 33 rfl) rfl 5 (by decide) lk_X1_41 rfl (tyX1_ok 5 (by decide)) rfl rfl rfl h ?_
    clear h; intro s29 h
    refine g_aload_n C dX1_leastBelow_70 rfl 0 rfl ?_
    refine g_getI C ok1 dX1_leastBelow_71 (hL 33 rfl) rfl 4 (by decide) lk_X1_37 rfl ?_
    replace h := lt_ex h
    obtain ⟨j31, ej31, h⟩ := h
    have hj31 : ∀ (s30 : St), j31 s30 = some (r', st') → Gm p l e (rmD 12) s m args below meth c D cy ad A L 6 0 0 (MQ below (QG D cy ad A L (some (.int r')) st') args s 0 0 A) 88 [(0, .ref (ad 33))] [] s30 := by
      intro s30 h
      rw [ej31] at h
      dsimp only at h
      refine g_aload_n C dX1_leastBelow_88 rfl 0 rfl ?_
      refine g_getI C ok1 dX1_leastBelow_89 (hL 33 rfl) rfl 5 (by decide) lk_X1_41 rfl ?_
      refine g_iconst (v := (1 : Int32)) C dX1_leastBelow_92 (by decide) ?_
      refine g_iadd C dX1_leastBelow_93 ?_
      exact g_iret C hr hlk dX1_leastBelow_94 h
    refine g_if_le (tgt := 88) C dX1_leastBelow_74 (by decide) h ?_ ?_
    · clear h; intro hc74 h
      refine g_sub (lv2 := [(0, .ref (ad 33))]) [0] rfl ?_
      exact hj31 _ h
    · clear h; intro hc74 h
      refine g_aload_n C dX1_leastBelow_77 rfl 0 rfl ?_
      replace h := bs_some h
      obtain ⟨s32, h1, h⟩ := h
      refine g_cV (As := []) (rest := []) (stk2 := []) C mf_X1_findTwins ok1 rfl lk_X1_44 in_X1_findTwins se_X1_findTwins dX1_leastBelow_78 (hL 33 rfl) rfl rfl rfl rfl ⟨Nat.le_of_ble_eq_true rfl, Nat.le_of_ble_eq_true rfl⟩ (Nat.le_of_ble_eq_true rfl) ⟨Nat.le_refl 0, Nat.le_refl 0⟩ (ct_X1_findTwins hL h1) ?_
      refine g_aload_n C dX1_leastBelow_81 rfl 0 rfl ?_
      refine g_iconst (v := (0 : Int32)) C dX1_leastBelow_82 (by decide) ?_
      refine g_iconst (v := (0 : Int32)) C dX1_leastBelow_83 (by decide) ?_
      refine g_iconst (v := (0 : Int32)) C dX1_leastBelow_84 (by decide) ?_
      replace h := bs_some h
      obtain ⟨s33, h1, h⟩ := h
      refine g_cV (As := [.int (0 : Int32), .int (0 : Int32), .int (0 : Int32)]) (rest := []) (stk2 := []) C mf_X1_lay ok1 rfl lk_X1_47 in_X1_lay se_X1_lay dX1_leastBelow_85 (hL 33 rfl) rfl rfl rfl rfl ⟨Nat.le_of_ble_eq_true rfl, Nat.le_of_ble_eq_true rfl⟩ (Nat.le_of_ble_eq_true rfl) ⟨Nat.le_refl 0, Nat.le_refl 0⟩ (ct_X1_lay hL 9 _ _ _ _ _ h1) ?_
      refine g_sub (lv2 := [(0, .ref (ad 33))]) [0] rfl ?_
      exact hj31 _ h
-- X3_compare
def lpB_X3_compare_4 (v1 : Int32) (st : St) (K34 : Int32 → Option (St)) (self : Int32 → Int32 → Option (St)) (v2 : Int32) (v3 : Int32) : Option (St) :=
  (if v1 ≤ v3 then K34 v2 else ck (inb (st 32 12) 2) (ck (inb v3 3) (ck (inb (st 62 v3.toNatClampNeg) 128) (lt (v2 + (st (57 + 1 * (st 32 12).toNatClampNeg) (st 62 v3.toNatClampNeg).toNatClampNeg)) (fun (v24 : Int32) => lt (v3 + (1 : Int32)) (fun (v25 : Int32) => self v24 v25))))))
def lp_X3_compare_4 (v1 : Int32) (st : St) (K34 : Int32 → Option (St)) : Nat → Int32 → Int32 → Option (St) := itf (lpB_X3_compare_4 v1 st K34) (fun _ _ => none)
def lpB_X3_compare_36 (N : Nat) (v1 : Int32) (K171 : Int32 → St → Option (St)) (self : Int32 → Int32 → St → Option (St)) (v2 : Int32) (v3 : Int32) (st : St) : Option (St) :=
  (if v1 ≤ v3 then K171 v2 st else (if (st 32 14) ≤ v2 then K171 v2 st else ck (inb v3 3) (lt (st 62 v3.toNatClampNeg) (fun (v28 : Int32) => ck (inb (st 32 12) 2) (ck (inb v28 128) ((if (st (60 + 1 * (st 32 12).toNatClampNeg) v28.toNatClampNeg) = (-1 : Int32) then ck (inb (st 32 12) 2) (ck (inb v28 128) (lt (v2 - (st (57 + 1 * (st 32 12).toNatClampNeg) v28.toNatClampNeg)) (fun (v32 : Int32) => lt ((st 32 14) - v32) (fun (v33 : Int32) => bd (F_X1_leastBelow N v33 v28 (st 32 13) st) (fun (r34 : Int32) (s35 : St) => lt r34 (fun (v36 : Int32) => ck (inb (s35 32 12) 2) (ck (inb v28 128) (lt (up s35 (57 + 1 * (s35 32 12).toNatClampNeg) v28.toNatClampNeg v36) (fun (s38 : St) => lt (fun (s39 : St) => lt (v32 + v36) (fun (v41 : Int32) => lt (v3 + (1 : Int32)) (fun (v42 : Int32) => self v41 v42 s39))) (fun (j40 : St → Option (St)) => (if v33 ≤ v36 then j40 s38 else ck (inb (s38 32 12) 2) (ck (inb v28 128) (lt (up s38 (60 + 1 * (s38 32 12).toNatClampNeg) v28.toNatClampNeg (s38 33 6)) (fun (s44 : St) => j40 s44)))))))))))))) else lt (v3 + (1 : Int32)) (fun (v30 : Int32) => self v2 v30 st))))))))
def lp_X3_compare_36 (N : Nat) (v1 : Int32) (K171 : Int32 → St → Option (St)) : Nat → Int32 → Int32 → St → Option (St) := itf (lpB_X3_compare_36 N v1 K171) (fun _ _ _ => none)
def F_X3_compare (N : Nat) (v1 : Int32) (st : St) : Option (St) :=
  lt (0 : Int32) (fun (v21 : Int32) => lt (0 : Int32) (fun (v22 : Int32) => lp_X3_compare_4 v1 st (fun (v26 : Int32) => lt (0 : Int32) (fun (v27 : Int32) => lp_X3_compare_36 N v1 (fun (v45 : Int32) (s46 : St) => (if (s46 32 14) ≤ v45 then some s46 else lt (up s46 32 14 v45) (fun (s47 : St) => lt (up s47 32 15 v1) (fun (s48 : St) => ck (decide (0 ≤ (0 : Int32) ∧ 0 ≤ (0 : Int32) ∧ 0 ≤ (3 : Int32) ∧ (0 : Int32).toNatClampNeg + (3 : Int32).toNatClampNeg ≤ 3 ∧ (0 : Int32).toNatClampNeg + (3 : Int32).toNatClampNeg ≤ 3)) (lt (upr s48 63 (va_cpy (s48 62) (s48 63) (0 : Int32).toNatClampNeg (0 : Int32).toNatClampNeg (3 : Int32).toNatClampNeg)) (fun (s49 : St) => some s49)))))) N v26 v27 st)) N v21 v22))
set_option maxHeartbeats 4000000 in
set_option maxRecDepth 100000 in
theorem wlp_X3_compare_4 (C : Cx p s m args c cX3_compare RX3 8 D cy ad A L) (hr : meth.sig.returnType = none) (hlk : meth.locks = false) (hL : ∀ k, prF k = true → k ∈ L) {N : Nat} {v1 : Int32} {st' : St} {st : St} {K34 : Int32 → Option (St)} (hK34 : ∀ (v2 : Int32), K34 v2 = some st' → Gm p l e (rmD 13) s m args below meth c D cy ad A L 8 0 0 (MQ below (QG D cy ad A L none st') args s 0 0 A) 34 [(0, .ref (ad 32)), (1, .int v1), (2, .int v2)] [] st) : ∀ (n : Nat) (v2 : Int32) (v3 : Int32), lp_X3_compare_4 v1 st K34 n v2 v3 = some st' → Gm p l e (rmD 13) s m args below meth c D cy ad A L 8 0 0 (MQ below (QG D cy ad A L none st') args s 0 0 A) 4 [(0, .ref (ad 32)), (1, .int v1), (2, .int v2), (3, .int v3)] [] st := by
  intro n
  induction n with
  | zero => intro v2 v3 h; cases h
  | succ n ih =>
    intro v2 v3 h
    change lpB_X3_compare_4 v1 st K34 (lp_X3_compare_4 v1 st K34 n) v2 v3 = some _ at h
    unfold lpB_X3_compare_4 at h
    refine g_iload_n C dX3_compare_4 rfl 3 rfl ?_
    refine g_iload_n C dX3_compare_5 rfl 1 rfl ?_
    refine g_icmp_ge (tgt := 34) C dX3_compare_6 (by decide) h ?_ ?_
    · clear h; intro hc6 h
      refine g_sub (lv2 := [(0, .ref (ad 32)), (1, .int v1), (2, .int v2)]) [0, 1, 2] rfl ?_
      exact hK34 _ h
    · clear h; intro hc6 h
      refine g_iload_n C dX3_compare_9 rfl 2 rfl ?_
      refine g_aload_n C dX3_compare_10 rfl 0 rfl ?_
      refine g_getR (k2 := 56) C ok3 dX3_compare_11 (hL 32 rfl) rfl 4 (by decide) lk_X3_19 rfl rfl ?_
      refine g_aload_n C dX3_compare_14 rfl 0 rfl ?_
      refine g_getI C ok3 dX3_compare_15 (hL 32 rfl) rfl 12 (by decide) lk_X3_70 rfl ?_
      have hb23 := (ck_some h).1
      refine g_aaldI C dX3_compare_18 (hL 56 rfl) rfl rfl rfl h ?_
      clear h; intro h
      refine g_aload_n C dX3_compare_19 rfl 0 rfl ?_
      refine g_getR (k2 := 62) C ok3 dX3_compare_20 (hL 32 rfl) rfl 6 (by decide) lk_X3_25 rfl rfl ?_
      refine g_iload_n C dX3_compare_23 rfl 3 rfl ?_
      refine g_iald C dX3_compare_24 (hL 62 rfl) rfl rfl h ?_
      clear h; intro h
      refine g_iald C dX3_compare_25 (hL _ (prF_of (kdFl hb23) (by decide))) (kdFl hb23) (lnFl hb23) h ?_
      clear h; intro h
      refine g_iadd C dX3_compare_26 ?_
      refine g_istore_n (lv' := fun y => [(2, .int y), (0, .ref (ad 32)), (1, .int v1), (3, .int v3)]) C dX3_compare_27 rfl (by decide) (fun y => rfl) h ?_
      clear h; intro v24 h
      refine g_iinc (lv' := fun y => [(3, .int y), (2, .int v24), (0, .ref (ad 32)), (1, .int v1)]) C dX3_compare_28 3 rfl rfl (by decide) (fun y => rfl) h ?_
      clear h; intro v25 h
      refine g_goto (tgt := 4) C dX3_compare_31 (by decide) ?_
      refine g_sub (lv2 := [(0, .ref (ad 32)), (1, .int v1), (2, .int v24), (3, .int v25)]) [2, 3, 1, 0] rfl ?_
      exact ih _ _ h
set_option maxHeartbeats 4000000 in
set_option maxRecDepth 100000 in
theorem wlp_X3_compare_36 (C : Cx p s m args c cX3_compare RX3 8 D cy ad A L) (hr : meth.sig.returnType = none) (hlk : meth.locks = false) (hL : ∀ k, prF k = true → k ∈ L) {N : Nat} {v1 : Int32} {st' : St} {K171 : Int32 → St → Option (St)} (hK171 : ∀ (v2 : Int32) (st : St), K171 v2 st = some st' → Gm p l e (rmD 13) s m args below meth c D cy ad A L 8 0 0 (MQ below (QG D cy ad A L none st') args s 0 0 A) 171 [(0, .ref (ad 32)), (1, .int v1), (2, .int v2)] [] st) : ∀ (n : Nat) (v2 : Int32) (v3 : Int32) (st : St), lp_X3_compare_36 N v1 K171 n v2 v3 st = some st' → Gm p l e (rmD 13) s m args below meth c D cy ad A L 8 0 0 (MQ below (QG D cy ad A L none st') args s 0 0 A) 36 [(0, .ref (ad 32)), (1, .int v1), (2, .int v2), (3, .int v3)] [] st := by
  intro n
  induction n with
  | zero => intro v2 v3 st h; cases h
  | succ n ih =>
    intro v2 v3 st h
    change lpB_X3_compare_36 N v1 K171 (lp_X3_compare_36 N v1 K171 n) v2 v3 st = some _ at h
    unfold lpB_X3_compare_36 at h
    refine g_iload_n C dX3_compare_36 rfl 3 rfl ?_
    refine g_iload_n C dX3_compare_37 rfl 1 rfl ?_
    refine g_icmp_ge (tgt := 171) C dX3_compare_38 (by decide) h ?_ ?_
    · clear h; intro hc38 h
      refine g_sub (lv2 := [(0, .ref (ad 32)), (1, .int v1), (2, .int v2)]) [0, 1, 2] rfl ?_
      exact hK171 _ _ h
    · clear h; intro hc38 h
      refine g_iload_n C dX3_compare_41 rfl 2 rfl ?_
      refine g_aload_n C dX3_compare_42 rfl 0 rfl ?_
      refine g_getI C ok3 dX3_compare_43 (hL 32 rfl) rfl 14 (by decide) lk_X3_82 rfl ?_
      refine g_icmp_ge (tgt := 171) C dX3_compare_46 (by decide) h ?_ ?_
      · clear h; intro hc46 h
        refine g_sub (lv2 := [(0, .ref (ad 32)), (1, .int v1), (2, .int v2)]) [0, 1, 2] rfl ?_
        exact hK171 _ _ h
      · clear h; intro hc46 h
        refine g_aload_n C dX3_compare_49 rfl 0 rfl ?_
        refine g_getR (k2 := 62) C ok3 dX3_compare_50 (hL 32 rfl) rfl 6 (by decide) lk_X3_25 rfl rfl ?_
        refine g_iload_n C dX3_compare_53 rfl 3 rfl ?_
        refine g_iald C dX3_compare_54 (hL 62 rfl) rfl rfl h ?_
        clear h; intro h
        refine g_istore (lv' := fun y => [(4, .int y), (0, .ref (ad 32)), (1, .int v1), (2, .int v2), (3, .int v3)]) C dX3_compare_55 (by decide) (fun y => rfl) h ?_
        clear h; intro v28 h
        refine g_aload_n C dX3_compare_57 rfl 1 rfl ?_
        refine g_getR (k2 := 59) C ok3 dX3_compare_58 (hL 32 rfl) rfl 5 (by decide) lk_X3_22 rfl rfl ?_
        refine g_aload_n C dX3_compare_61 rfl 1 rfl ?_
        refine g_getI C ok3 dX3_compare_62 (hL 32 rfl) rfl 12 (by decide) lk_X3_70 rfl ?_
        have hb29 := (ck_some h).1
        refine g_aaldI C dX3_compare_65 (hL 59 rfl) rfl rfl rfl h ?_
        clear h; intro h
        refine g_iload C dX3_compare_66 0 rfl ?_
        refine g_iald C dX3_compare_68 (hL _ (prF_of (kdLa hb29) (by decide))) (kdLa hb29) (lnLa hb29) h ?_
        clear h; intro h
        refine g_iconst (v := (-1 : Int32)) C dX3_compare_69 (by decide) ?_
        refine g_icmp_ne (tgt := 165) C dX3_compare_70 (by decide) h ?_ ?_
        · clear h; intro hc70 h
          refine g_iinc (lv' := fun y => [(3, .int y), (4, .int v28), (0, .ref (ad 32)), (1, .int v1), (2, .int v2)]) C dX3_compare_165 4 rfl rfl (by decide) (fun y => rfl) h ?_
          clear h; intro v30 h
          refine g_goto (tgt := 36) C dX3_compare_168 (by decide) ?_
          refine g_sub (lv2 := [(0, .ref (ad 32)), (1, .int v1), (2, .int v2), (3, .int v30)]) [2, 3, 4, 0] rfl ?_
          exact ih _ _ _ h
        · clear h; intro hc70 h
          refine g_iload_n C dX3_compare_73 rfl 3 rfl ?_
          refine g_aload_n C dX3_compare_74 rfl 1 rfl ?_
          refine g_getR (k2 := 56) C ok3 dX3_compare_75 (hL 32 rfl) rfl 4 (by decide) lk_X3_19 rfl rfl ?_
          refine g_aload_n C dX3_compare_78 rfl 1 rfl ?_
          refine g_getI C ok3 dX3_compare_79 (hL 32 rfl) rfl 12 (by decide) lk_X3_70 rfl ?_
          have hb31 := (ck_some h).1
          refine g_aaldI C dX3_compare_82 (hL 56 rfl) rfl rfl rfl h ?_
          clear h; intro h
          refine g_iload C dX3_compare_83 0 rfl ?_
          refine g_iald C dX3_compare_85 (hL _ (prF_of (kdFl hb31) (by decide))) (kdFl hb31) (lnFl hb31) h ?_
          clear h; intro h
          refine g_isub C dX3_compare_86 ?_
          refine g_istore (lv' := fun y => [(5, .int y), (4, .int v28), (0, .ref (ad 32)), (1, .int v1), (2, .int v2), (3, .int v3)]) C dX3_compare_87 (by decide) (fun y => rfl) h ?_
          clear h; intro v32 h
          refine g_aload_n C dX3_compare_89 rfl 2 rfl ?_
          refine g_getI C ok3 dX3_compare_90 (hL 32 rfl) rfl 14 (by decide) lk_X3_82 rfl ?_
          refine g_iload C dX3_compare_93 0 rfl ?_
          refine g_isub C dX3_compare_95 ?_
          refine g_istore (lv' := fun y => [(6, .int y), (5, .int v32), (4, .int v28), (0, .ref (ad 32)), (1, .int v1), (2, .int v2), (3, .int v3)]) C dX3_compare_96 (by decide) (fun y => rfl) h ?_
          clear h; intro v33 h
          refine g_aload_n C dX3_compare_98 rfl 3 rfl ?_
          refine g_getR (k2 := 33) C ok3 dX3_compare_99 (hL 32 rfl) rfl 2 (by decide) lk_X3_48 rfl rfl ?_
          refine g_iload C dX3_compare_102 0 rfl ?_
          refine g_aload_n C dX3_compare_104 rfl 3 rfl ?_
          refine g_getR (k2 := 1) C ok3 dX3_compare_105 (hL 32 rfl) rfl 0 (by decide) lk_X3_35 rfl rfl ?_
          refine g_iload C dX3_compare_108 2 rfl ?_
          refine g_aload_n C dX3_compare_110 rfl 3 rfl ?_
          refine g_getI C ok3 dX3_compare_111 (hL 32 rfl) rfl 13 (by decide) lk_X3_79 rfl ?_
          replace h := bd_some h
          obtain ⟨r34, s35, h1, h⟩ := h
          refine g_cV (As := [.int v33, .ref (ad 1), .int v28, .int (st 32 13)]) (rest := []) (stk2 := [.int r34]) C mf_X1_leastBelow ok1 rfl lk_X3_124 in_X1_leastBelow se_X1_leastBelow dX3_compare_114 (hL 33 rfl) rfl rfl rfl rfl ⟨Nat.le_of_ble_eq_true rfl, Nat.le_of_ble_eq_true rfl⟩ (Nat.le_of_ble_eq_true rfl) ⟨Nat.le_refl 0, Nat.le_refl 0⟩ (ct_X1_leastBelow hL h1) ?_
          refine g_istore (lv' := fun y => [(7, .int y), (6, .int v33), (5, .int v32), (4, .int v28), (0, .ref (ad 32)), (1, .int v1), (2, .int v2), (3, .int v3)]) C dX3_compare_117 (by decide) (fun y => rfl) h ?_
          clear h; intro v36 h
          refine g_aload_n C dX3_compare_119 rfl 4 rfl ?_
          refine g_getR (k2 := 56) C ok3 dX3_compare_120 (hL 32 rfl) rfl 4 (by decide) lk_X3_19 rfl rfl ?_
          refine g_aload_n C dX3_compare_123 rfl 4 rfl ?_
          refine g_getI C ok3 dX3_compare_124 (hL 32 rfl) rfl 12 (by decide) lk_X3_70 rfl ?_
          have hb37 := (ck_some h).1
          refine g_aaldI C dX3_compare_127 (hL 56 rfl) rfl rfl rfl h ?_
          clear h; intro h
          refine g_iload C dX3_compare_128 3 rfl ?_
          refine g_iload C dX3_compare_130 0 rfl ?_
          refine g_iast C dX3_compare_132 (hL _ (prF_of (kdFl hb37) (by decide))) (kdFl hb37) (lnFl hb37) h ?_
          clear h; intro s38 h
          refine g_iload C dX3_compare_133 0 rfl ?_
          refine g_iload C dX3_compare_135 1 rfl ?_
          replace h := lt_ex h
          obtain ⟨j40, ej40, h⟩ := h
          have hj40 : ∀ (s39 : St), j40 s39 = some st' → Gm p l e (rmD 13) s m args below meth c D cy ad A L 8 0 0 (MQ below (QG D cy ad A L none st') args s 0 0 A) 159 [(0, .ref (ad 32)), (1, .int v1), (3, .int v3), (5, .int v32), (7, .int v36)] [] s39 := by
            intro s39 h
            rw [ej40] at h
            dsimp only at h
            refine g_iload C dX3_compare_159 3 rfl ?_
            refine g_iload C dX3_compare_161 4 rfl ?_
            refine g_iadd C dX3_compare_163 ?_
            refine g_istore_n (lv' := fun y => [(2, .int y), (0, .ref (ad 32)), (1, .int v1), (3, .int v3), (5, .int v32), (7, .int v36)]) C dX3_compare_164 rfl (by decide) (fun y => rfl) h ?_
            clear h; intro v41 h
            refine g_iinc (lv' := fun y => [(3, .int y), (2, .int v41), (0, .ref (ad 32)), (1, .int v1), (5, .int v32), (7, .int v36)]) C dX3_compare_165 3 rfl rfl (by decide) (fun y => rfl) h ?_
            clear h; intro v42 h
            refine g_goto (tgt := 36) C dX3_compare_168 (by decide) ?_
            refine g_sub (lv2 := [(0, .ref (ad 32)), (1, .int v1), (2, .int v41), (3, .int v42)]) [2, 3, 1, 0] rfl ?_
            exact ih _ _ _ h
          refine g_icmp_ge (tgt := 159) C dX3_compare_137 (by decide) h ?_ ?_
          · clear h; intro hc137 h
            refine g_sub (lv2 := [(0, .ref (ad 32)), (1, .int v1), (3, .int v3), (5, .int v32), (7, .int v36)]) [4, 5, 7, 2, 0] rfl ?_
            exact hj40 _ h
          · clear h; intro hc137 h
            refine g_aload_n C dX3_compare_140 rfl 4 rfl ?_
            refine g_getR (k2 := 59) C ok3 dX3_compare_141 (hL 32 rfl) rfl 5 (by decide) lk_X3_22 rfl rfl ?_
            refine g_aload_n C dX3_compare_144 rfl 4 rfl ?_
            refine g_getI C ok3 dX3_compare_145 (hL 32 rfl) rfl 12 (by decide) lk_X3_70 rfl ?_
            have hb43 := (ck_some h).1
            refine g_aaldI C dX3_compare_148 (hL 59 rfl) rfl rfl rfl h ?_
            clear h; intro h
            refine g_iload C dX3_compare_149 3 rfl ?_
            refine g_aload_n C dX3_compare_151 rfl 4 rfl ?_
            refine g_getR (k2 := 33) C ok3 dX3_compare_152 (hL 32 rfl) rfl 2 (by decide) lk_X3_48 rfl rfl ?_
            refine g_getI C ok1 dX3_compare_155 (hL 33 rfl) rfl 6 (by decide) lk_X3_128 rfl ?_
            refine g_iast C dX3_compare_158 (hL _ (prF_of (kdLa hb43) (by decide))) (kdLa hb43) (lnLa hb43) h ?_
            clear h; intro s44 h
            refine g_sub (lv2 := [(0, .ref (ad 32)), (1, .int v1), (3, .int v3), (5, .int v32), (7, .int v36)]) [4, 5, 7, 2, 0] rfl ?_
            exact hj40 _ h
set_option maxHeartbeats 4000000 in
set_option maxRecDepth 100000 in
theorem ct_X3_compare {N : Nat} (hL : ∀ k, prF k = true → k ∈ L) {v1 : Int32} {st st' : St} (h : F_X3_compare N v1 st = some st') : Ct l D cy ad A L yX3_compare cX3_compare 8 none 13 [.ref (ad 32), .int v1] st none st' := by
  unfold F_X3_compare at h
  refine ct_of (own := RX3) (by decide) rfl (Nat.le_of_ble_eq_true rfl) ?_
  intro p e s m args below meth c C hr hlk
  refine g_sub (lv2 := [(0, .ref (ad 32)), (1, .int v1)]) [0, 1] rfl ?_
  refine g_iconst (v := (0 : Int32)) C dX3_compare_0 (by decide) ?_
  refine g_istore_n (lv' := fun y => [(2, .int y), (0, .ref (ad 32)), (1, .int v1)]) C dX3_compare_1 rfl (by decide) (fun y => rfl) h ?_
  clear h; intro v21 h
  refine g_iconst (v := (0 : Int32)) C dX3_compare_2 (by decide) ?_
  refine g_istore_n (lv' := fun y => [(3, .int y), (2, .int v21), (0, .ref (ad 32)), (1, .int v1)]) C dX3_compare_3 rfl (by decide) (fun y => rfl) h ?_
  clear h; intro v22 h
  refine g_sub (lv2 := [(0, .ref (ad 32)), (1, .int v1), (2, .int v21), (3, .int v22)]) [2, 3, 1, 0] rfl ?_
  refine wlp_X3_compare_4 (N := N) C hr hlk hL ?_ _ _ _ h
  · intro v26 h
    refine g_iconst (v := (0 : Int32)) C dX3_compare_34 (by decide) ?_
    refine g_istore_n (lv' := fun y => [(3, .int y), (0, .ref (ad 32)), (1, .int v1), (2, .int v26)]) C dX3_compare_35 rfl (by decide) (fun y => rfl) h ?_
    clear h; intro v27 h
    refine g_sub (lv2 := [(0, .ref (ad 32)), (1, .int v1), (2, .int v26), (3, .int v27)]) [1, 2, 3, 0] rfl ?_
    refine wlp_X3_compare_36 (N := N) C hr hlk hL ?_ _ _ _ _ h
    · intro v45 s46 h
      refine g_iload_n C dX3_compare_171 rfl 2 rfl ?_
      refine g_aload_n C dX3_compare_172 rfl 0 rfl ?_
      refine g_getI C ok3 dX3_compare_173 (hL 32 rfl) rfl 14 (by decide) lk_X3_82 rfl ?_
      refine g_icmp_ge (tgt := 203) C dX3_compare_176 (by decide) h ?_ ?_
      · clear h; intro hc176 h
        exact g_vret C hr hlk dX3_compare_203 h
      · clear h; intro hc176 h
        refine g_aload_n C dX3_compare_179 rfl 0 rfl ?_
        refine g_iload_n C dX3_compare_180 rfl 2 rfl ?_
        refine g_put (ty := .int) C ok3 dX3_compare_181 (hL 32 rfl) rfl 14 (by decide) lk_X3_82 rfl (tyX3_ok 14 (by decide)) rfl rfl rfl h ?_
        clear h; intro s47 h
        refine g_aload_n C dX3_compare_184 rfl 0 rfl ?_
        refine g_iload_n C dX3_compare_185 rfl 1 rfl ?_
        refine g_put (ty := .int) C ok3 dX3_compare_186 (hL 32 rfl) rfl 15 (by decide) lk_X3_131 rfl (tyX3_ok 15 (by decide)) rfl rfl rfl h ?_
        clear h; intro s48 h
        refine g_aload_n C dX3_compare_189 rfl 0 rfl ?_
        refine g_getR (k2 := 62) C ok3 dX3_compare_190 (hL 32 rfl) rfl 6 (by decide) lk_X3_25 rfl rfl ?_
        refine g_iconst (v := (0 : Int32)) C dX3_compare_193 (by decide) ?_
        refine g_aload_n C dX3_compare_194 rfl 0 rfl ?_
        refine g_getR (k2 := 63) C ok3 dX3_compare_195 (hL 32 rfl) rfl 7 (by decide) lk_X3_29 rfl rfl ?_
        refine g_iconst (v := (0 : Int32)) C dX3_compare_198 (by decide) ?_
        refine g_iconst (v := (3 : Int32)) C dX3_compare_199 (by decide) ?_
        refine g_copy C lk_X3_134 nat_copy sm_copy ini_System (hL 62 rfl) rfl rfl (hL 63 rfl) rfl rfl ⟨Nat.le_of_ble_eq_true rfl, Nat.le_of_ble_eq_true rfl⟩ dX3_compare_200 h ?_
        clear h; intro s49 h
        exact g_vret C hr hlk dX3_compare_203 h
-- J6_bitCount_0f7a4
def F_J6_bitCount_0f7a4 (v0 : Int32) : Option (Int32) :=
  lt (v0 - (((v0).toUInt32 >>> (((1 : Int32)).toUInt32 &&& Int32.toUInt32 31)).toInt32 &&& (1431655765 : Int32))) (fun (v21 : Int32) => lt ((v21 &&& (858993459 : Int32)) + (((v21).toUInt32 >>> (((2 : Int32)).toUInt32 &&& Int32.toUInt32 31)).toInt32 &&& (858993459 : Int32))) (fun (v22 : Int32) => lt ((v22 + ((v22).toUInt32 >>> (((4 : Int32)).toUInt32 &&& Int32.toUInt32 31)).toInt32) &&& (252645135 : Int32)) (fun (v23 : Int32) => lt (v23 + ((v23).toUInt32 >>> (((8 : Int32)).toUInt32 &&& Int32.toUInt32 31)).toInt32) (fun (v24 : Int32) => lt (v24 + ((v24).toUInt32 >>> (((16 : Int32)).toUInt32 &&& Int32.toUInt32 31)).toInt32) (fun (v25 : Int32) => some (v25 &&& (63 : Int32)))))))
set_option maxHeartbeats 4000000 in
set_option maxRecDepth 100000 in
theorem ct_J6_bitCount_0f7a4 (hL : ∀ k, prF k = true → k ∈ L) {v0 : Int32} {st : St} {r' : Int32} (h : F_J6_bitCount_0f7a4 v0 = some r') : Ct l D cy ad A L yJ6_bitCount_0f7a4 cJ6_bitCount_0f7a4 1 (some .int) 1 [.int v0] st (some (.int r')) st := by
  unfold F_J6_bitCount_0f7a4 at h
  refine ct_of (own := RJ6) (by decide) rfl (Nat.le_of_ble_eq_true rfl) ?_
  intro p e s m args below meth c C hr hlk
  refine g_sub (lv2 := [(0, .int v0)]) [0] rfl ?_
  refine g_iload_n C dJ6_bitCount_0f7a4_0 rfl 0 rfl ?_
  refine g_iload_n C dJ6_bitCount_0f7a4_1 rfl 0 rfl ?_
  refine g_iconst (v := (1 : Int32)) C dJ6_bitCount_0f7a4_2 (by decide) ?_
  refine g_iushr C dJ6_bitCount_0f7a4_3 ?_
  refine g_ldcw C kc_J6_265 dJ6_bitCount_0f7a4_4 ?_
  refine g_iand C dJ6_bitCount_0f7a4_7 ?_
  refine g_isub C dJ6_bitCount_0f7a4_8 ?_
  refine g_istore_n (lv' := fun y => [(0, .int y)]) C dJ6_bitCount_0f7a4_9 rfl (by decide) (fun y => rfl) h ?_
  clear h; intro v21 h
  refine g_iload_n C dJ6_bitCount_0f7a4_10 rfl 0 rfl ?_
  refine g_ldcw C kc_J6_266 dJ6_bitCount_0f7a4_11 ?_
  refine g_iand C dJ6_bitCount_0f7a4_14 ?_
  refine g_iload_n C dJ6_bitCount_0f7a4_15 rfl 0 rfl ?_
  refine g_iconst (v := (2 : Int32)) C dJ6_bitCount_0f7a4_16 (by decide) ?_
  refine g_iushr C dJ6_bitCount_0f7a4_17 ?_
  refine g_ldcw C kc_J6_266 dJ6_bitCount_0f7a4_18 ?_
  refine g_iand C dJ6_bitCount_0f7a4_21 ?_
  refine g_iadd C dJ6_bitCount_0f7a4_22 ?_
  refine g_istore_n (lv' := fun y => [(0, .int y)]) C dJ6_bitCount_0f7a4_23 rfl (by decide) (fun y => rfl) h ?_
  clear h; intro v22 h
  refine g_iload_n C dJ6_bitCount_0f7a4_24 rfl 0 rfl ?_
  refine g_iload_n C dJ6_bitCount_0f7a4_25 rfl 0 rfl ?_
  refine g_iconst (v := (4 : Int32)) C dJ6_bitCount_0f7a4_26 (by decide) ?_
  refine g_iushr C dJ6_bitCount_0f7a4_27 ?_
  refine g_iadd C dJ6_bitCount_0f7a4_28 ?_
  refine g_ldcw C kc_J6_267 dJ6_bitCount_0f7a4_29 ?_
  refine g_iand C dJ6_bitCount_0f7a4_32 ?_
  refine g_istore_n (lv' := fun y => [(0, .int y)]) C dJ6_bitCount_0f7a4_33 rfl (by decide) (fun y => rfl) h ?_
  clear h; intro v23 h
  refine g_iload_n C dJ6_bitCount_0f7a4_34 rfl 0 rfl ?_
  refine g_iload_n C dJ6_bitCount_0f7a4_35 rfl 0 rfl ?_
  refine g_bipush (v := (8 : Int32)) C dJ6_bitCount_0f7a4_36 (by decide) ?_
  refine g_iushr C dJ6_bitCount_0f7a4_38 ?_
  refine g_iadd C dJ6_bitCount_0f7a4_39 ?_
  refine g_istore_n (lv' := fun y => [(0, .int y)]) C dJ6_bitCount_0f7a4_40 rfl (by decide) (fun y => rfl) h ?_
  clear h; intro v24 h
  refine g_iload_n C dJ6_bitCount_0f7a4_41 rfl 0 rfl ?_
  refine g_iload_n C dJ6_bitCount_0f7a4_42 rfl 0 rfl ?_
  refine g_bipush (v := (16 : Int32)) C dJ6_bitCount_0f7a4_43 (by decide) ?_
  refine g_iushr C dJ6_bitCount_0f7a4_45 ?_
  refine g_iadd C dJ6_bitCount_0f7a4_46 ?_
  refine g_istore_n (lv' := fun y => [(0, .int y)]) C dJ6_bitCount_0f7a4_47 rfl (by decide) (fun y => rfl) h ?_
  clear h; intro v25 h
  refine g_iload_n C dJ6_bitCount_0f7a4_48 rfl 0 rfl ?_
  refine g_bipush (v := (63 : Int32)) C dJ6_bitCount_0f7a4_49 (by decide) ?_
  refine g_iand C dJ6_bitCount_0f7a4_51 ?_
  exact g_iretP C hr hlk dJ6_bitCount_0f7a4_52 h
-- X3_divide
def lpB_X3_divide_38 (v1 : Int32) (v2 : Int32) (v3 : Int32) (v4 : Int32) (rec : Int32 → Int32 → St → Option (St)) (self : Int32 → St → Option (St)) (v5 : Int32) (st : St) : Option (St) :=
  (if v4 ≤ v5 then some st else ck (inb v5 3) (bs (F_J6_bitCount_0f7a4 (st 62 v5.toNatClampNeg)) (fun (r24 : Int32) => (if (st 32 10) ≤ r24 then lt (v5 + (1 : Int32)) (fun (v25 : Int32) => self v25 st) else ck (inb v5 3) (ck (inb v5 3) (lt (up st 62 v5.toNatClampNeg ((st 62 v5.toNatClampNeg) ||| v3)) (fun (s26 : St) => bs (rec (v1 + (1 : Int32)) (if v2 < (v5 + (1 : Int32)) then (v5 + (1 : Int32)) else v2) s26) (fun (s27 : St) => ck (inb v5 3) (ck (inb v5 3) (lt (up s27 62 v5.toNatClampNeg ((s27 62 v5.toNatClampNeg) &&& (v3 ^^^ (-1 : Int32)))) (fun (s28 : St) => lt (v5 + (1 : Int32)) (fun (v29 : Int32) => self v29 s28))))))))))))
def lp_X3_divide_38 (v1 : Int32) (v2 : Int32) (v3 : Int32) (v4 : Int32) (rec : Int32 → Int32 → St → Option (St)) : Nat → Int32 → St → Option (St) := itf (lpB_X3_divide_38 v1 v2 v3 v4 rec) (fun _ _ => none)
def FB_X3_divide (N : Nat) (rec : Int32 → Int32 → St → Option (St)) (v1 : Int32) (v2 : Int32) (st : St) : Option (St) :=
  (if v1 < (st 32 9) then ck (inb v1 7) (lt ((1 : Int32) <<< ((st 64 v1.toNatClampNeg) &&& 31)) (fun (v21 : Int32) => lt (if (st 32 11) < (v2 + (1 : Int32)) then (st 32 11) else (v2 + (1 : Int32))) (fun (v22 : Int32) => lt (0 : Int32) (fun (v23 : Int32) => lp_X3_divide_38 v1 v2 v21 v22 rec  N v23 st)))) else bs (F_X3_compare N v2 st) (fun (s30 : St) => some s30))
def F_X3_divide (N : Nat) : Nat → Int32 → Int32 → St → Option (St) := itf (FB_X3_divide N) (fun _ _ _ => none)
set_option maxHeartbeats 4000000 in
set_option maxRecDepth 100000 in
theorem wlp_X3_divide_38 (C : Cx p s m args c cX3_divide RX3 6 D cy ad A L) (hr : meth.sig.returnType = none) (hlk : meth.locks = false) (hL : ∀ k, prF k = true → k ∈ L) {dep : Nat} {rec : Int32 → Int32 → St → Option (St)} (hrec : ∀ (a1 a2 : Int32) (st st' : St), rec a1 a2 st = some st' → Ct l D cy ad A L yX3_divide cX3_divide 6 none (14 + dep) [.ref (ad 32), .int a1, .int a2] st none st') {N : Nat} {v1 : Int32} {v2 : Int32} {v3 : Int32} {v4 : Int32} {st' : St} : ∀ (n : Nat) (v5 : Int32) (st : St), lp_X3_divide_38 v1 v2 v3 v4 rec n v5 st = some st' → Gm p l e (rmD (14 + (dep + 1))) s m args below meth c D cy ad A L 6 0 0 (MQ below (QG D cy ad A L none st') args s 0 0 A) 38 [(0, .ref (ad 32)), (1, .int v1), (2, .int v2), (3, .int v3), (4, .int v4), (5, .int v5)] [] st := by
  intro n
  induction n with
  | zero => intro v5 st h; cases h
  | succ n ih =>
    intro v5 st h
    change lpB_X3_divide_38 v1 v2 v3 v4 rec (lp_X3_divide_38 v1 v2 v3 v4 rec n) v5 st = some _ at h
    unfold lpB_X3_divide_38 at h
    refine g_iload C dX3_divide_38 5 rfl ?_
    refine g_iload C dX3_divide_40 4 rfl ?_
    refine g_icmp_ge (tgt := 107) C dX3_divide_42 (by decide) h ?_ ?_
    · clear h; intro hc42 h
      exact g_vret C hr hlk dX3_divide_107 h
    · clear h; intro hc42 h
      refine g_aload_n C dX3_divide_45 rfl 0 rfl ?_
      refine g_getR (k2 := 62) C ok3 dX3_divide_46 (hL 32 rfl) rfl 6 (by decide) lk_X3_25 rfl rfl ?_
      refine g_iload C dX3_divide_49 5 rfl ?_
      refine g_iald C dX3_divide_51 (hL 62 rfl) rfl rfl h ?_
      clear h; intro h
      replace h := bs_some h
      obtain ⟨r24, h1, h⟩ := h
      refine g_cS (As := [.int (st 62 v5.toNatClampNeg)]) (rest := []) (stk2 := [.int r24]) C mf_J6_bitCount_0f7a4 lk_X3_115 sm_J6_bitCount_0f7a4 dX3_divide_52 rfl rfl rfl ⟨by show _ ≤ _ + _; omega, by show _ ≤ 40 * _; omega⟩ (Nat.le_of_ble_eq_true rfl) ⟨Nat.le_refl 0, Nat.le_refl 0⟩ (ct_J6_bitCount_0f7a4 hL h1) ?_
      refine g_aload_n C dX3_divide_55 rfl 0 rfl ?_
      refine g_getI C ok3 dX3_divide_56 (hL 32 rfl) rfl 10 (by decide) lk_X3_91 rfl ?_
      refine g_icmp_ge (tgt := 101) C dX3_divide_59 (by decide) h ?_ ?_
      · clear h; intro hc59 h
        refine g_iinc (lv' := fun y => [(5, .int y), (0, .ref (ad 32)), (1, .int v1), (2, .int v2), (3, .int v3), (4, .int v4)]) C dX3_divide_101 5 rfl rfl (by decide) (fun y => rfl) h ?_
        clear h; intro v25 h
        refine g_goto (tgt := 38) C dX3_divide_104 (by decide) ?_
        refine g_sub (lv2 := [(0, .ref (ad 32)), (1, .int v1), (2, .int v2), (3, .int v3), (4, .int v4), (5, .int v25)]) [1, 2, 3, 4, 5, 0] rfl ?_
        exact ih _ _ h
      · clear h; intro hc59 h
        refine g_aload_n C dX3_divide_62 rfl 0 rfl ?_
        refine g_getR (k2 := 62) C ok3 dX3_divide_63 (hL 32 rfl) rfl 6 (by decide) lk_X3_25 rfl rfl ?_
        refine g_iload C dX3_divide_66 5 rfl ?_
        refine g_dup2 C dX3_divide_68 rfl rfl ?_
        refine g_iald C dX3_divide_69 (hL 62 rfl) rfl rfl h ?_
        clear h; intro h
        refine g_iload_n C dX3_divide_70 rfl 3 rfl ?_
        refine g_ior C dX3_divide_71 ?_
        refine g_iast C dX3_divide_72 (hL 62 rfl) rfl rfl h ?_
        clear h; intro s26 h
        refine g_aload_n C dX3_divide_73 rfl 0 rfl ?_
        refine g_iload_n C dX3_divide_74 rfl 1 rfl ?_
        refine g_iconst (v := (1 : Int32)) C dX3_divide_75 (by decide) ?_
        refine g_iadd C dX3_divide_76 ?_
        refine g_iload_n C dX3_divide_77 rfl 2 rfl ?_
        refine g_iload C dX3_divide_78 5 rfl ?_
        refine g_iconst (v := (1 : Int32)) C dX3_divide_80 (by decide) ?_
        refine g_iadd C dX3_divide_81 ?_
        refine g_max C lk_X3_121 sm_max ini_Math cd_max ⟨by show _ ≤ _ + _; omega, by show _ ≤ 40 * _; show _ + 13 ≤ _; simp [Value.category]; omega, Nat.le_refl 0, Nat.le_refl 0⟩ dX3_divide_82 ?_
        replace h := bs_some h
        obtain ⟨s27, h1, h⟩ := h
        refine g_cV (As := [.int (v1 + (1 : Int32)), .int (if v2 < (v5 + (1 : Int32)) then (v5 + (1 : Int32)) else v2)]) (rest := []) (stk2 := []) C mf_X3_divide ok3 rfl lk_X3_94 in_X3_divide se_X3_divide dX3_divide_85 (hL 32 rfl) rfl rfl rfl rfl ⟨by show _ ≤ _ + _; omega, by show _ ≤ 40 * _; omega⟩ (Nat.le_of_ble_eq_true rfl) ⟨Nat.le_refl 0, Nat.le_refl 0⟩ (hrec _ _ _ _ h1) ?_
        refine g_aload_n C dX3_divide_88 rfl 0 rfl ?_
        refine g_getR (k2 := 62) C ok3 dX3_divide_89 (hL 32 rfl) rfl 6 (by decide) lk_X3_25 rfl rfl ?_
        refine g_iload C dX3_divide_92 5 rfl ?_
        refine g_dup2 C dX3_divide_94 rfl rfl ?_
        refine g_iald C dX3_divide_95 (hL 62 rfl) rfl rfl h ?_
        clear h; intro h
        refine g_iload_n C dX3_divide_96 rfl 3 rfl ?_
        refine g_iconst (v := (-1 : Int32)) C dX3_divide_97 (by decide) ?_
        refine g_ixor C dX3_divide_98 ?_
        refine g_iand C dX3_divide_99 ?_
        refine g_iast C dX3_divide_100 (hL 62 rfl) rfl rfl h ?_
        clear h; intro s28 h
        refine g_iinc (lv' := fun y => [(5, .int y), (0, .ref (ad 32)), (1, .int v1), (2, .int v2), (3, .int v3), (4, .int v4)]) C dX3_divide_101 5 rfl rfl (by decide) (fun y => rfl) h ?_
        clear h; intro v29 h
        refine g_goto (tgt := 38) C dX3_divide_104 (by decide) ?_
        refine g_sub (lv2 := [(0, .ref (ad 32)), (1, .int v1), (2, .int v2), (3, .int v3), (4, .int v4), (5, .int v29)]) [1, 2, 3, 4, 5, 0] rfl ?_
        exact ih _ _ h
set_option maxHeartbeats 4000000 in
set_option maxRecDepth 100000 in
theorem ct_X3_divide {N : Nat} (hL : ∀ k, prF k = true → k ∈ L) : ∀ (dep : Nat) (v1 : Int32) (v2 : Int32) (st st' : St), F_X3_divide N dep v1 v2 st = some st' → Ct l D cy ad A L yX3_divide cX3_divide 6 none (14 + dep) [.ref (ad 32), .int v1, .int v2] st none st' := by
  intro dep
  induction dep with
  | zero => intro v1 v2 st st' h; cases h
  | succ dep hrec =>
    intro v1 v2 st st' h
    change FB_X3_divide N (F_X3_divide N dep) v1 v2 st = some _ at h
    unfold FB_X3_divide at h
    generalize F_X3_divide N dep = rec at h hrec
    refine ct_of (own := RX3) (by decide) rfl (Nat.le_of_ble_eq_true rfl) ?_
    intro p e s m args below meth c C hr hlk
    refine g_sub (lv2 := [(0, .ref (ad 32)), (1, .int v1), (2, .int v2)]) [0, 1, 2] rfl ?_
    refine g_iload_n C dX3_divide_0 rfl 1 rfl ?_
    refine g_aload_n C dX3_divide_1 rfl 0 rfl ?_
    refine g_getI C ok3 dX3_divide_2 (hL 32 rfl) rfl 9 (by decide) lk_X3_88 rfl ?_
    refine g_icmp_lt (tgt := 14) C dX3_divide_5 (by decide) h ?_ ?_
    · clear h; intro hc5 h
      refine g_iconst (v := (1 : Int32)) C dX3_divide_14 (by decide) ?_
      refine g_aload_n C dX3_divide_15 rfl 0 rfl ?_
      refine g_getR (k2 := 64) C ok3 dX3_divide_16 (hL 32 rfl) rfl 8 (by decide) lk_X3_32 rfl rfl ?_
      refine g_iload_n C dX3_divide_19 rfl 1 rfl ?_
      refine g_iald C dX3_divide_20 (hL 64 rfl) rfl rfl h ?_
      clear h; intro h
      refine g_ishl C dX3_divide_21 ?_
      refine g_istore_n (lv' := fun y => [(3, .int y), (0, .ref (ad 32)), (1, .int v1), (2, .int v2)]) C dX3_divide_22 rfl (by decide) (fun y => rfl) h ?_
      clear h; intro v21 h
      refine g_iload_n C dX3_divide_23 rfl 3 rfl ?_
      refine g_iconst (v := (1 : Int32)) C dX3_divide_24 (by decide) ?_
      refine g_iadd C dX3_divide_25 ?_
      refine g_aload_n C dX3_divide_26 rfl 1 rfl ?_
      refine g_getI C ok3 dX3_divide_27 (hL 32 rfl) rfl 11 (by decide) lk_X3_66 rfl ?_
      refine g_min C lk_X3_109 sm_min ini_Math cd_min ⟨by show _ ≤ _ + _; omega, by show _ ≤ 40 * _; show _ + 13 ≤ _; simp [Value.category]; omega, Nat.le_refl 0, Nat.le_refl 0⟩ dX3_divide_30 ?_
      refine g_istore (lv' := fun y => [(4, .int y), (3, .int v21), (0, .ref (ad 32)), (1, .int v1), (2, .int v2)]) C dX3_divide_33 (by decide) (fun y => rfl) h ?_
      clear h; intro v22 h
      refine g_iconst (v := (0 : Int32)) C dX3_divide_35 (by decide) ?_
      refine g_istore (lv' := fun y => [(5, .int y), (4, .int v22), (3, .int v21), (0, .ref (ad 32)), (1, .int v1), (2, .int v2)]) C dX3_divide_36 (by decide) (fun y => rfl) h ?_
      clear h; intro v23 h
      refine g_sub (lv2 := [(0, .ref (ad 32)), (1, .int v1), (2, .int v2), (3, .int v21), (4, .int v22), (5, .int v23)]) [3, 4, 5, 2, 1, 0] rfl ?_
      refine wlp_X3_divide_38 (N := N) C hr hlk hL hrec  _ _ _ h
    · clear h; intro hc5 h
      refine g_aload_n C dX3_divide_8 rfl 0 rfl ?_
      refine g_iload_n C dX3_divide_9 rfl 2 rfl ?_
      replace h := bs_some h
      obtain ⟨s30, h1, h⟩ := h
      refine g_cV (As := [.int v2]) (rest := []) (stk2 := []) C mf_X3_compare ok3 rfl lk_X3_105 in_X3_compare se_X3_compare dX3_divide_10 (hL 32 rfl) rfl rfl rfl rfl ⟨by show _ ≤ _ + _; omega, by show _ ≤ 40 * _; omega⟩ (Nat.le_of_ble_eq_true rfl) ⟨Nat.le_refl 0, Nat.le_refl 0⟩ (ct_X3_compare hL h1) ?_
      exact g_vret C hr hlk dX3_divide_13 h
-- X6_cost
def lpB_X6_cost_52 (N : Nat) (st : St) (self : Int32 → Int32 → Option (Int32 × St)) (v2 : Int32) (v3 : Int32) : Option (Int32 × St) :=
  (if (7 : Int32) ≤ v3 then some (v2, st) else bs (F_X6_pairCost N v3 31 st) (fun (r27 : Int32) => lt (v2 + r27) (fun (v28 : Int32) => lt (v3 + (1 : Int32)) (fun (v29 : Int32) => self v28 v29))))
def lp_X6_cost_52 (N : Nat) (st : St) : Nat → Int32 → Int32 → Option (Int32 × St) := itf (lpB_X6_cost_52 N st) (fun _ _ => none)
def F_X6_cost (N : Nat) (a : Nat) (st : St) : Option (Int32 × St) :=
  ck (decide (kd a = 9)) (lt (ck (decide (0 ≤ (0 : Int32) ∧ 0 ≤ (0 : Int32) ∧ 0 ≤ (7 : Int32) ∧ (0 : Int32).toNatClampNeg + (7 : Int32).toNatClampNeg ≤ (ln a) ∧ (0 : Int32).toNatClampNeg + (7 : Int32).toNatClampNeg ≤ 8)) (lt (upr st 31 (va_cpy (st a) (st 31) (0 : Int32).toNatClampNeg (0 : Int32).toNatClampNeg (7 : Int32).toNatClampNeg)) (fun (s22 : St) => ck (inb (7 : Int32) 8) (lt (up s22 31 (7 : Int32).toNatClampNeg (7 : Int32)) (fun (s23 : St) => bs (F_X6_forkCost N 31 s23) (fun (r24 : Int32) => lt ((1 : Int32) + r24) (fun (v25 : Int32) => lt (1 : Int32) (fun (v26 : Int32) => lp_X6_cost_52 N s23  N v25 v26)))))))) (fun (j21 : Option (Int32 × St)) => (if (st 25 8) = (7 : Int32) then (if (st 25 9) = 0 then some ((0 : Int32), st) else j21) else j21)))
set_option maxHeartbeats 4000000 in
set_option maxRecDepth 100000 in
theorem wlp_X6_cost_52 (C : Cx p s m args c cX6_cost RX6 4 D cy ad A L) (hr : meth.sig.returnType = (some .int)) (hlk : meth.locks = false) (hL : ∀ k, prF k = true → k ∈ L) {N : Nat} {r' : Int32} {st' : St} {st : St} : ∀ (n : Nat) (v2 : Int32) (v3 : Int32), lp_X6_cost_52 N st n v2 v3 = some (r', st') → Gm p l e (rmD 2) s m args below meth c D cy ad A L 4 0 0 (MQ below (QG D cy ad A L (some (.int r')) st') args s 0 0 A) 52 [(0, .ref (ad 25)), (2, .int v2), (3, .int v3)] [] st := by
  intro n
  induction n with
  | zero => intro v2 v3 h; cases h
  | succ n ih =>
    intro v2 v3 h
    change lpB_X6_cost_52 N st (lp_X6_cost_52 N st n) v2 v3 = some _ at h
    unfold lpB_X6_cost_52 at h
    refine g_iload_n C dX6_cost_52 rfl 2 rfl ?_
    refine g_bipush (v := (7 : Int32)) C dX6_cost_53 (by decide) ?_
    refine g_icmp_ge (tgt := 76) C dX6_cost_55 (by decide) h ?_ ?_
    · clear h; intro hc55 h
      refine g_iload_n C dX6_cost_76 rfl 1 rfl ?_
      exact g_iret C hr hlk dX6_cost_77 h
    · clear h; intro hc55 h
      refine g_iload_n C dX6_cost_58 rfl 1 rfl ?_
      refine g_aload_n C dX6_cost_59 rfl 0 rfl ?_
      refine g_iload_n C dX6_cost_60 rfl 2 rfl ?_
      refine g_aload_n C dX6_cost_61 rfl 0 rfl ?_
      refine g_getR (k2 := 31) C ok6 dX6_cost_62 (hL 25 rfl) rfl 5 (by decide) lk_X6_27 rfl rfl ?_
      replace h := bs_some h
      obtain ⟨r27, h1, h⟩ := h
      refine g_cV (As := [.int v3, .ref (ad 31)]) (rest := [.int v2]) (stk2 := [.int r27, .int v2]) C mf_X6_pairCost ok6 rfl lk_X6_86 in_X6_pairCost se_X6_pairCost dX6_cost_65 (hL 25 rfl) rfl rfl rfl rfl ⟨Nat.le_of_ble_eq_true rfl, Nat.le_of_ble_eq_true rfl⟩ (Nat.le_of_ble_eq_true rfl) ⟨Nat.le_refl 0, Nat.le_refl 0⟩ (ct_X6_pairCost hL h1) ?_
      refine g_iadd C dX6_cost_68 ?_
      refine g_istore_n (lv' := fun y => [(2, .int y), (0, .ref (ad 25)), (3, .int v3)]) C dX6_cost_69 rfl (by decide) (fun y => rfl) h ?_
      clear h; intro v28 h
      refine g_iinc (lv' := fun y => [(3, .int y), (2, .int v28), (0, .ref (ad 25))]) C dX6_cost_70 2 rfl rfl (by decide) (fun y => rfl) h ?_
      clear h; intro v29 h
      refine g_goto (tgt := 52) C dX6_cost_73 (by decide) ?_
      refine g_sub (lv2 := [(0, .ref (ad 25)), (2, .int v28), (3, .int v29)]) [2, 1, 0] rfl ?_
      exact ih _ _ h
set_option maxHeartbeats 4000000 in
set_option maxRecDepth 100000 in
theorem ct_X6_cost {N : Nat} (hL : ∀ k, prF k = true → k ∈ L) {a : Nat} {st st' : St} {r' : Int32} (h : F_X6_cost N a st = some (r', st')) : Ct l D cy ad A L yX6_cost cX6_cost 4 (some .int) 2 [.ref (ad 25), .ref (ad a)] st (some (.int r')) st' := by
  unfold F_X6_cost at h
  refine ct_of (own := RX6) (by decide) rfl (Nat.le_of_ble_eq_true rfl) ?_
  intro p e s m args below meth c C hr hlk
  refine g_sub (lv2 := [(0, .ref (ad 25)), (1, .ref (ad a))]) [0, 1] rfl ?_
  replace h := ck_some h
  obtain ⟨hg_a, h⟩ := h
  have kd_a : kd a = 9 := of_decide_eq_true hg_a
  refine g_aload_n C dX6_cost_0 rfl 0 rfl ?_
  refine g_getI C ok6 dX6_cost_1 (hL 25 rfl) rfl 8 (by decide) lk_X6_43 rfl ?_
  refine g_bipush (v := (7 : Int32)) C dX6_cost_4 (by decide) ?_
  replace h := lt_ex h
  obtain ⟨j21, ej21, h⟩ := h
  have hj21 : j21 = some (r', st') → Gm p l e (rmD 2) s m args below meth c D cy ad A L 4 0 0 (MQ below (QG D cy ad A L (some (.int r')) st') args s 0 0 A) 18 [(0, .ref (ad 25)), (1, .ref (ad a))] [] st := by
    intro h
    rw [ej21] at h
    skip
    refine g_aload_n C dX6_cost_18 rfl 1 rfl ?_
    refine g_iconst (v := (0 : Int32)) C dX6_cost_19 (by decide) ?_
    refine g_aload_n C dX6_cost_20 rfl 0 rfl ?_
    refine g_getR (k2 := 31) C ok6 dX6_cost_21 (hL 25 rfl) rfl 5 (by decide) lk_X6_27 rfl rfl ?_
    refine g_iconst (v := (0 : Int32)) C dX6_cost_24 (by decide) ?_
    refine g_bipush (v := (7 : Int32)) C dX6_cost_25 (by decide) ?_
    refine g_copy C lk_X6_76 nat_copy sm_copy ini_System (hL _ (prF_of kd_a (by decide))) kd_a rfl (hL 31 rfl) rfl rfl ⟨Nat.le_of_ble_eq_true rfl, Nat.le_of_ble_eq_true rfl⟩ dX6_cost_27 h ?_
    clear h; intro s22 h
    refine g_aload_n C dX6_cost_30 rfl 0 rfl ?_
    refine g_getR (k2 := 31) C ok6 dX6_cost_31 (hL 25 rfl) rfl 5 (by decide) lk_X6_27 rfl rfl ?_
    refine g_bipush (v := (7 : Int32)) C dX6_cost_34 (by decide) ?_
    refine g_bipush (v := (7 : Int32)) C dX6_cost_36 (by decide) ?_
    refine g_iast C dX6_cost_38 (hL 31 rfl) rfl rfl h ?_
    clear h; intro s23 h
    refine g_iconst (v := (1 : Int32)) C dX6_cost_39 (by decide) ?_
    refine g_aload_n C dX6_cost_40 rfl 0 rfl ?_
    refine g_aload_n C dX6_cost_41 rfl 0 rfl ?_
    refine g_getR (k2 := 31) C ok6 dX6_cost_42 (hL 25 rfl) rfl 5 (by decide) lk_X6_27 rfl rfl ?_
    replace h := bs_some h
    obtain ⟨r24, h1, h⟩ := h
    refine g_cV (As := [.ref (ad 31)]) (rest := [.int (1 : Int32)]) (stk2 := [.int r24, .int (1 : Int32)]) C mf_X6_forkCost ok6 rfl lk_X6_82 in_X6_forkCost se_X6_forkCost dX6_cost_45 (hL 25 rfl) rfl rfl rfl rfl ⟨Nat.le_of_ble_eq_true rfl, Nat.le_of_ble_eq_true rfl⟩ (Nat.le_of_ble_eq_true rfl) ⟨Nat.le_refl 0, Nat.le_refl 0⟩ (ct_X6_forkCost hL h1) ?_
    refine g_iadd C dX6_cost_48 ?_
    refine g_istore_n (lv' := fun y => [(2, .int y), (0, .ref (ad 25)), (1, .ref (ad a))]) C dX6_cost_49 rfl (by decide) (fun y => rfl) h ?_
    clear h; intro v25 h
    refine g_iconst (v := (1 : Int32)) C dX6_cost_50 (by decide) ?_
    refine g_istore_n (lv' := fun y => [(3, .int y), (2, .int v25), (0, .ref (ad 25)), (1, .ref (ad a))]) C dX6_cost_51 rfl (by decide) (fun y => rfl) h ?_
    clear h; intro v26 h
    refine g_sub (lv2 := [(0, .ref (ad 25)), (2, .int v25), (3, .int v26)]) [2, 1, 0] rfl ?_
    refine wlp_X6_cost_52 (N := N) C hr hlk hL  _ _ _ h
  refine g_icmp_ne (tgt := 18) C dX6_cost_6 (by decide) h ?_ ?_
  · clear h; intro hc6 h
    refine g_sub (lv2 := [(0, .ref (ad 25)), (1, .ref (ad a))]) [0, 1] rfl ?_
    exact hj21  h
  · clear h; intro hc6 h
    refine g_aload_n C dX6_cost_9 rfl 0 rfl ?_
    refine g_getI C ok6 dX6_cost_10 (hL 25 rfl) rfl 9 (by decide) lk_X6_46 rfl ?_
    refine g_if_ne (tgt := 18) C dX6_cost_13 (by decide) h ?_ ?_
    · clear h; intro hc13 h
      refine g_sub (lv2 := [(0, .ref (ad 25)), (1, .ref (ad a))]) [0, 1] rfl ?_
      exact hj21  h
    · clear h; intro hc13 h
      refine g_iconst (v := (0 : Int32)) C dX6_cost_16 (by decide) ?_
      exact g_iret C hr hlk dX6_cost_17 h
-- X3_turnedIn
def lpB_X3_turnedIn_11 (N : Nat) (v1 : Int32) (a : Nat) (self : Int32 → Int32 → Int32 → St → Option (Int32 × St)) (v3 : Int32) (v4 : Int32) (v5 : Int32) (st : St) : Option (Int32 × St) :=
  (if (st 1 0) ≤ v5 then some (v4, st) else lt ((1 : Int32) <<< (v5 &&& 31)) (fun (v24 : Int32) => (if (v3 &&& v24) = 0 then lt (v5 + (1 : Int32)) (fun (v25 : Int32) => self v3 v4 v25 st) else lt (v3 &&& (v24 ^^^ (-1 : Int32))) (fun (v26 : Int32) => bs (F_X6_trace N v1 v26 v4 st) (fun (s27 : St) => bd (F_X6_cost N a s27) (fun (r28 : Int32) (s29 : St) => ck (inb (s29 32 12) 2) (ck (inb v1 128) ((if r28 ≤ (s29 (57 + 1 * (s29 32 12).toNatClampNeg) v1.toNatClampNeg) then lt (v5 + (1 : Int32)) (fun (v31 : Int32) => self v26 v4 v31 s29) else lt (v4 ||| v24) (fun (v32 : Int32) => lt (v5 + (1 : Int32)) (fun (v33 : Int32) => self v26 v32 v33 s29)))))))))))
def lp_X3_turnedIn_11 (N : Nat) (v1 : Int32) (a : Nat) : Nat → Int32 → Int32 → Int32 → St → Option (Int32 × St) := itf (lpB_X3_turnedIn_11 N v1 a) (fun _ _ _ _ => none)
def F_X3_turnedIn (N : Nat) (v1 : Int32) (a : Nat) (st : St) : Option (Int32 × St) :=
  ck (decide (kd a = 9)) (lt (st 32 13) (fun (v21 : Int32) => lt (0 : Int32) (fun (v22 : Int32) => lt (0 : Int32) (fun (v23 : Int32) => lp_X3_turnedIn_11 N v1 a  N v21 v22 v23 st))))
set_option maxHeartbeats 4000000 in
set_option maxRecDepth 100000 in
theorem wlp_X3_turnedIn_11 (C : Cx p s m args c cX3_turnedIn RX3 7 D cy ad A L) (hr : meth.sig.returnType = (some .int)) (hlk : meth.locks = false) (hL : ∀ k, prF k = true → k ∈ L) {N : Nat} {v1 : Int32} {a : Nat} (kd_a : kd a = 9) {r' : Int32} {st' : St} : ∀ (n : Nat) (v3 : Int32) (v4 : Int32) (v5 : Int32) (st : St), lp_X3_turnedIn_11 N v1 a n v3 v4 v5 st = some (r', st') → Gm p l e (rmD 4) s m args below meth c D cy ad A L 7 0 0 (MQ below (QG D cy ad A L (some (.int r')) st') args s 0 0 A) 11 [(0, .ref (ad 32)), (1, .int v1), (2, .ref (ad a)), (3, .int v3), (4, .int v4), (5, .int v5)] [] st := by
  intro n
  induction n with
  | zero => intro v3 v4 v5 st h; cases h
  | succ n ih =>
    intro v3 v4 v5 st h
    change lpB_X3_turnedIn_11 N v1 a (lp_X3_turnedIn_11 N v1 a n) v3 v4 v5 st = some _ at h
    unfold lpB_X3_turnedIn_11 at h
    refine g_iload C dX3_turnedIn_11 5 rfl ?_
    refine g_aload_n C dX3_turnedIn_13 rfl 0 rfl ?_
    refine g_getR (k2 := 1) C ok3 dX3_turnedIn_14 (hL 32 rfl) rfl 0 (by decide) lk_X3_35 rfl rfl ?_
    refine g_getI C ok5 dX3_turnedIn_17 (hL 1 rfl) rfl 0 (by decide) lk_X3_158 rfl ?_
    refine g_icmp_ge (tgt := 93) C dX3_turnedIn_20 (by decide) h ?_ ?_
    · clear h; intro hc20 h
      refine g_iload C dX3_turnedIn_93 4 rfl ?_
      exact g_iret C hr hlk dX3_turnedIn_95 h
    · clear h; intro hc20 h
      refine g_iconst (v := (1 : Int32)) C dX3_turnedIn_23 (by decide) ?_
      refine g_iload C dX3_turnedIn_24 5 rfl ?_
      refine g_ishl C dX3_turnedIn_26 ?_
      refine g_istore (lv' := fun y => [(6, .int y), (0, .ref (ad 32)), (1, .int v1), (2, .ref (ad a)), (3, .int v3), (4, .int v4), (5, .int v5)]) C dX3_turnedIn_27 (by decide) (fun y => rfl) h ?_
      clear h; intro v24 h
      refine g_iload_n C dX3_turnedIn_29 rfl 4 rfl ?_
      refine g_iload C dX3_turnedIn_30 0 rfl ?_
      refine g_iand C dX3_turnedIn_32 ?_
      refine g_if_eq (tgt := 87) C dX3_turnedIn_33 (by decide) h ?_ ?_
      · clear h; intro hc33 h
        refine g_iinc (lv' := fun y => [(5, .int y), (6, .int v24), (0, .ref (ad 32)), (1, .int v1), (2, .ref (ad a)), (3, .int v3), (4, .int v4)]) C dX3_turnedIn_87 6 rfl rfl (by decide) (fun y => rfl) h ?_
        clear h; intro v25 h
        refine g_goto (tgt := 11) C dX3_turnedIn_90 (by decide) ?_
        refine g_sub (lv2 := [(0, .ref (ad 32)), (1, .int v1), (2, .ref (ad a)), (3, .int v3), (4, .int v4), (5, .int v25)]) [2, 3, 4, 5, 6, 0] rfl ?_
        exact ih _ _ _ _ h
      · clear h; intro hc33 h
        refine g_iload_n C dX3_turnedIn_36 rfl 4 rfl ?_
        refine g_iload C dX3_turnedIn_37 0 rfl ?_
        refine g_iconst (v := (-1 : Int32)) C dX3_turnedIn_39 (by decide) ?_
        refine g_ixor C dX3_turnedIn_40 ?_
        refine g_iand C dX3_turnedIn_41 ?_
        refine g_istore_n (lv' := fun y => [(3, .int y), (6, .int v24), (0, .ref (ad 32)), (1, .int v1), (2, .ref (ad a)), (4, .int v4), (5, .int v5)]) C dX3_turnedIn_42 rfl (by decide) (fun y => rfl) h ?_
        clear h; intro v26 h
        refine g_aload_n C dX3_turnedIn_43 rfl 2 rfl ?_
        refine g_getR (k2 := 25) C ok3 dX3_turnedIn_44 (hL 32 rfl) rfl 1 (by decide) lk_X3_39 rfl rfl ?_
        refine g_aload_n C dX3_turnedIn_47 rfl 2 rfl ?_
        refine g_getR (k2 := 1) C ok3 dX3_turnedIn_48 (hL 32 rfl) rfl 0 (by decide) lk_X3_35 rfl rfl ?_
        refine g_iload_n C dX3_turnedIn_51 rfl 3 rfl ?_
        refine g_iload_n C dX3_turnedIn_52 rfl 0 rfl ?_
        refine g_iload C dX3_turnedIn_53 5 rfl ?_
        replace h := bs_some h
        obtain ⟨s27, h1, h⟩ := h
        refine g_cV (As := [.ref (ad 1), .int v1, .int v26, .int v4]) (rest := []) (stk2 := []) C mf_X6_trace ok6 rfl lk_X3_161 in_X6_trace se_X6_trace dX3_turnedIn_55 (hL 25 rfl) rfl rfl rfl rfl ⟨Nat.le_of_ble_eq_true rfl, Nat.le_of_ble_eq_true rfl⟩ (Nat.le_of_ble_eq_true rfl) ⟨Nat.le_refl 0, Nat.le_refl 0⟩ (ct_X6_trace hL h1) ?_
        refine g_aload_n C dX3_turnedIn_58 rfl 2 rfl ?_
        refine g_getR (k2 := 25) C ok3 dX3_turnedIn_59 (hL 32 rfl) rfl 1 (by decide) lk_X3_39 rfl rfl ?_
        refine g_aload_n C dX3_turnedIn_62 rfl 4 rfl ?_
        replace h := bd_some h
        obtain ⟨r28, s29, h1, h⟩ := h
        refine g_cV (As := [.ref (ad a)]) (rest := []) (stk2 := [.int r28]) C mf_X6_cost ok6 rfl lk_X3_167 in_X6_cost se_X6_cost dX3_turnedIn_63 (hL 25 rfl) rfl rfl rfl rfl ⟨Nat.le_of_ble_eq_true rfl, Nat.le_of_ble_eq_true rfl⟩ (Nat.le_of_ble_eq_true rfl) ⟨Nat.le_refl 0, Nat.le_refl 0⟩ (ct_X6_cost hL h1) ?_
        refine g_aload_n C dX3_turnedIn_66 rfl 2 rfl ?_
        refine g_getR (k2 := 56) C ok3 dX3_turnedIn_67 (hL 32 rfl) rfl 4 (by decide) lk_X3_19 rfl rfl ?_
        refine g_aload_n C dX3_turnedIn_70 rfl 2 rfl ?_
        refine g_getI C ok3 dX3_turnedIn_71 (hL 32 rfl) rfl 12 (by decide) lk_X3_70 rfl ?_
        have hb30 := (ck_some h).1
        refine g_aaldI C dX3_turnedIn_74 (hL 56 rfl) rfl rfl rfl h ?_
        clear h; intro h
        refine g_iload_n C dX3_turnedIn_75 rfl 3 rfl ?_
        refine g_iald C dX3_turnedIn_76 (hL _ (prF_of (kdFl hb30) (by decide))) (kdFl hb30) (lnFl hb30) h ?_
        clear h; intro h
        refine g_icmp_le (tgt := 87) C dX3_turnedIn_77 (by decide) h ?_ ?_
        · clear h; intro hc77 h
          refine g_iinc (lv' := fun y => [(5, .int y), (3, .int v26), (6, .int v24), (0, .ref (ad 32)), (1, .int v1), (2, .ref (ad a)), (4, .int v4)]) C dX3_turnedIn_87 6 rfl rfl (by decide) (fun y => rfl) h ?_
          clear h; intro v31 h
          refine g_goto (tgt := 11) C dX3_turnedIn_90 (by decide) ?_
          refine g_sub (lv2 := [(0, .ref (ad 32)), (1, .int v1), (2, .ref (ad a)), (3, .int v26), (4, .int v4), (5, .int v31)]) [3, 4, 5, 1, 6, 0] rfl ?_
          exact ih _ _ _ _ h
        · clear h; intro hc77 h
          refine g_iload C dX3_turnedIn_80 5 rfl ?_
          refine g_iload C dX3_turnedIn_82 1 rfl ?_
          refine g_ior C dX3_turnedIn_84 ?_
          refine g_istore (lv' := fun y => [(4, .int y), (3, .int v26), (6, .int v24), (0, .ref (ad 32)), (1, .int v1), (2, .ref (ad a)), (5, .int v5)]) C dX3_turnedIn_85 (by decide) (fun y => rfl) h ?_
          clear h; intro v32 h
          refine g_iinc (lv' := fun y => [(5, .int y), (4, .int v32), (3, .int v26), (6, .int v24), (0, .ref (ad 32)), (1, .int v1), (2, .ref (ad a))]) C dX3_turnedIn_87 6 rfl rfl (by decide) (fun y => rfl) h ?_
          clear h; intro v33 h
          refine g_goto (tgt := 11) C dX3_turnedIn_90 (by decide) ?_
          refine g_sub (lv2 := [(0, .ref (ad 32)), (1, .int v1), (2, .ref (ad a)), (3, .int v26), (4, .int v32), (5, .int v33)]) [4, 5, 6, 2, 1, 0] rfl ?_
          exact ih _ _ _ _ h
set_option maxHeartbeats 4000000 in
set_option maxRecDepth 100000 in
theorem ct_X3_turnedIn {N : Nat} (hL : ∀ k, prF k = true → k ∈ L) {v1 : Int32} {a : Nat} {st st' : St} {r' : Int32} (h : F_X3_turnedIn N v1 a st = some (r', st')) : Ct l D cy ad A L yX3_turnedIn cX3_turnedIn 7 (some .int) 4 [.ref (ad 32), .int v1, .ref (ad a)] st (some (.int r')) st' := by
  unfold F_X3_turnedIn at h
  refine ct_of (own := RX3) (by decide) rfl (Nat.le_of_ble_eq_true rfl) ?_
  intro p e s m args below meth c C hr hlk
  refine g_sub (lv2 := [(0, .ref (ad 32)), (1, .int v1), (2, .ref (ad a))]) [0, 1, 2] rfl ?_
  replace h := ck_some h
  obtain ⟨hg_a, h⟩ := h
  have kd_a : kd a = 9 := of_decide_eq_true hg_a
  refine g_aload_n C dX3_turnedIn_0 rfl 0 rfl ?_
  refine g_getI C ok3 dX3_turnedIn_1 (hL 32 rfl) rfl 13 (by decide) lk_X3_79 rfl ?_
  refine g_istore_n (lv' := fun y => [(3, .int y), (0, .ref (ad 32)), (1, .int v1), (2, .ref (ad a))]) C dX3_turnedIn_4 rfl (by decide) (fun y => rfl) h ?_
  clear h; intro v21 h
  refine g_iconst (v := (0 : Int32)) C dX3_turnedIn_5 (by decide) ?_
  refine g_istore (lv' := fun y => [(4, .int y), (3, .int v21), (0, .ref (ad 32)), (1, .int v1), (2, .ref (ad a))]) C dX3_turnedIn_6 (by decide) (fun y => rfl) h ?_
  clear h; intro v22 h
  refine g_iconst (v := (0 : Int32)) C dX3_turnedIn_8 (by decide) ?_
  refine g_istore (lv' := fun y => [(5, .int y), (4, .int v22), (3, .int v21), (0, .ref (ad 32)), (1, .int v1), (2, .ref (ad a))]) C dX3_turnedIn_9 (by decide) (fun y => rfl) h ?_
  clear h; intro v23 h
  refine g_sub (lv2 := [(0, .ref (ad 32)), (1, .int v1), (2, .ref (ad a)), (3, .int v21), (4, .int v22), (5, .int v23)]) [3, 4, 5, 2, 1, 0] rfl ?_
  refine wlp_X3_turnedIn_11 (N := N) C hr hlk hL kd_a  _ _ _ _ _ h
-- X3_write
def lpB_X3_write_41 (v2 : Int32) (v3 : Int32) (pl : Nat) (K97 : St → Option (St)) (self : Int32 → St → Option (St)) (v4 : Int32) (st : St) : Option (St) :=
  (if (7 : Int32) ≤ v4 then K97 st else (if ((v3 >>> (v4 &&& 31)) &&& (1 : Int32)) = 0 then lt (v4 + (1 : Int32)) (fun (v27 : Int32) => self v27 st) else ck (inb v4 7) (lt (up st (pl + 1) v4.toNatClampNeg v2) (fun (s28 : St) => ck (inb (s28 32 12) 2) (ck (inb v3 128) (ck (inb v4 7) (lt (up s28 (pl + 2) v4.toNatClampNeg (((s28 (60 + 1 * (s28 32 12).toNatClampNeg) v3.toNatClampNeg) >>> ((v4 * (3 : Int32)) &&& 31)) &&& (7 : Int32))) (fun (s30 : St) => lt (v4 + (1 : Int32)) (fun (v31 : Int32) => self v31 s30)))))))))
def lp_X3_write_41 (v2 : Int32) (v3 : Int32) (pl : Nat) (K97 : St → Option (St)) : Nat → Int32 → St → Option (St) := itf (lpB_X3_write_41 v2 v3 pl K97) (fun _ _ => none)
def lpB_X3_write_23 (N : Nat) (pl : Nat) (K103 : St → Option (St)) (self : Int32 → St → Option (St)) (v2 : Int32) (st : St) : Option (St) :=
  (if (st 32 15) ≤ v2 then K103 st else ck (inb v2 3) (lt (st 63 v2.toNatClampNeg) (fun (v25 : Int32) => lt (0 : Int32) (fun (v26 : Int32) => lp_X3_write_41 v2 v25 pl (fun (s32 : St) => lt (v2 + (1 : Int32)) (fun (v33 : Int32) => self v33 s32)) N v26 st))))
def lp_X3_write_23 (N : Nat) (pl : Nat) (K103 : St → Option (St)) : Nat → Int32 → St → Option (St) := itf (lpB_X3_write_23 N pl K103) (fun _ _ => none)
def lpB_X3_write_105 (N : Nat) (pl : Nat) (self : Int32 → St → Option (St)) (v2 : Int32) (st : St) : Option (St) :=
  (if (st 32 15) ≤ v2 then some st else ck (inb v2 3) (bd (F_X3_turnedIn N (st 63 v2.toNatClampNeg) (pl + 2) st) (fun (r36 : Int32) (s37 : St) => lt (up s37 pl 3 ((st pl 3) ||| r36)) (fun (s38 : St) => lt (v2 + (1 : Int32)) (fun (v39 : Int32) => self v39 s38)))))
def lp_X3_write_105 (N : Nat) (pl : Nat) : Nat → Int32 → St → Option (St) := itf (lpB_X3_write_105 N pl) (fun _ _ => none)
def F_X3_write (N : Nat) (pl : Nat) (st : St) : Option (St) :=
  ck (decide (kd pl = 2)) (lt (up st pl 1 (st 32 14)) (fun (s21 : St) => lt (up s21 pl 2 (s21 32 15)) (fun (s22 : St) => lt (up s22 pl 3 (0 : Int32)) (fun (s23 : St) => lt (0 : Int32) (fun (v24 : Int32) => lp_X3_write_23 N pl (fun (s34 : St) => lt (0 : Int32) (fun (v35 : Int32) => lp_X3_write_105 N pl  N v35 s34)) N v24 s23)))))
set_option maxHeartbeats 4000000 in
set_option maxRecDepth 100000 in
theorem wlp_X3_write_41 (C : Cx p s m args c cX3_write RX3 5 D cy ad A L) (hr : meth.sig.returnType = none) (hlk : meth.locks = false) (hL : ∀ k, prF k = true → k ∈ L) {N : Nat} {v2 : Int32} {v3 : Int32} {pl : Nat} (kd_pl : kd pl = 2) {st' : St} {K97 : St → Option (St)} (hK97 : ∀  (st : St), K97 st = some st' → Gm p l e (rmD 5) s m args below meth c D cy ad A L 5 0 0 (MQ below (QG D cy ad A L none st') args s 0 0 A) 97 [(0, .ref (ad 32)), (1, .ref (ad pl)), (2, .int v2)] [] st) : ∀ (n : Nat) (v4 : Int32) (st : St), lp_X3_write_41 v2 v3 pl K97 n v4 st = some st' → Gm p l e (rmD 5) s m args below meth c D cy ad A L 5 0 0 (MQ below (QG D cy ad A L none st') args s 0 0 A) 41 [(0, .ref (ad 32)), (1, .ref (ad pl)), (2, .int v2), (3, .int v3), (4, .int v4)] [] st := by
  intro n
  induction n with
  | zero => intro v4 st h; cases h
  | succ n ih =>
    intro v4 st h
    change lpB_X3_write_41 v2 v3 pl K97 (lp_X3_write_41 v2 v3 pl K97 n) v4 st = some _ at h
    unfold lpB_X3_write_41 at h
    refine g_iload C dX3_write_41 4 rfl ?_
    refine g_bipush (v := (7 : Int32)) C dX3_write_43 (by decide) ?_
    refine g_icmp_ge (tgt := 97) C dX3_write_45 (by decide) h ?_ ?_
    · clear h; intro hc45 h
      refine g_sub (lv2 := [(0, .ref (ad 32)), (1, .ref (ad pl)), (2, .int v2)]) [0, 1, 2] rfl ?_
      exact hK97 _ h
    · clear h; intro hc45 h
      refine g_iload_n C dX3_write_48 rfl 3 rfl ?_
      refine g_iload C dX3_write_49 4 rfl ?_
      refine g_ishr C dX3_write_51 ?_
      refine g_iconst (v := (1 : Int32)) C dX3_write_52 (by decide) ?_
      refine g_iand C dX3_write_53 ?_
      refine g_if_eq (tgt := 91) C dX3_write_54 (by decide) h ?_ ?_
      · clear h; intro hc54 h
        refine g_iinc (lv' := fun y => [(4, .int y), (0, .ref (ad 32)), (1, .ref (ad pl)), (2, .int v2), (3, .int v3)]) C dX3_write_91 4 rfl rfl (by decide) (fun y => rfl) h ?_
        clear h; intro v27 h
        refine g_goto (tgt := 41) C dX3_write_94 (by decide) ?_
        refine g_sub (lv2 := [(0, .ref (ad 32)), (1, .ref (ad pl)), (2, .int v2), (3, .int v3), (4, .int v27)]) [1, 2, 3, 4, 0] rfl ?_
        exact ih _ _ h
      · clear h; intro hc54 h
        refine g_aload_n C dX3_write_57 rfl 1 rfl ?_
        refine g_getR (k2 := (pl + 1)) C ok2 dX3_write_58 (hL _ (prF_of kd_pl (by decide))) kd_pl 4 (by decide) lk_X3_149 rfl rfl ?_
        refine g_iload C dX3_write_61 4 rfl ?_
        refine g_iload_n C dX3_write_63 rfl 2 rfl ?_
        refine g_iast C dX3_write_64 (hL _ (prF_of (kdP1 kd_pl) (by decide))) (kdP1 kd_pl) (lnP1 kd_pl) h ?_
        clear h; intro s28 h
        refine g_aload_n C dX3_write_65 rfl 1 rfl ?_
        refine g_getR (k2 := (pl + 2)) C ok2 dX3_write_66 (hL _ (prF_of kd_pl (by decide))) kd_pl 5 (by decide) lk_X3_151 rfl rfl ?_
        refine g_iload C dX3_write_69 4 rfl ?_
        refine g_aload_n C dX3_write_71 rfl 0 rfl ?_
        refine g_getR (k2 := 59) C ok3 dX3_write_72 (hL 32 rfl) rfl 5 (by decide) lk_X3_22 rfl rfl ?_
        refine g_aload_n C dX3_write_75 rfl 0 rfl ?_
        refine g_getI C ok3 dX3_write_76 (hL 32 rfl) rfl 12 (by decide) lk_X3_70 rfl ?_
        have hb29 := (ck_some h).1
        refine g_aaldI C dX3_write_79 (hL 59 rfl) rfl rfl rfl h ?_
        clear h; intro h
        refine g_iload_n C dX3_write_80 rfl 3 rfl ?_
        refine g_iald C dX3_write_81 (hL _ (prF_of (kdLa hb29) (by decide))) (kdLa hb29) (lnLa hb29) h ?_
        clear h; intro h
        refine g_iload C dX3_write_82 4 rfl ?_
        refine g_iconst (v := (3 : Int32)) C dX3_write_84 (by decide) ?_
        refine g_imul C dX3_write_85 ?_
        refine g_ishr C dX3_write_86 ?_
        refine g_bipush (v := (7 : Int32)) C dX3_write_87 (by decide) ?_
        refine g_iand C dX3_write_89 ?_
        refine g_iast C dX3_write_90 (hL _ (prF_of (kdP2 kd_pl) (by decide))) (kdP2 kd_pl) (lnP2 kd_pl) h ?_
        clear h; intro s30 h
        refine g_iinc (lv' := fun y => [(4, .int y), (0, .ref (ad 32)), (1, .ref (ad pl)), (2, .int v2), (3, .int v3)]) C dX3_write_91 4 rfl rfl (by decide) (fun y => rfl) h ?_
        clear h; intro v31 h
        refine g_goto (tgt := 41) C dX3_write_94 (by decide) ?_
        refine g_sub (lv2 := [(0, .ref (ad 32)), (1, .ref (ad pl)), (2, .int v2), (3, .int v3), (4, .int v31)]) [1, 2, 3, 4, 0] rfl ?_
        exact ih _ _ h
set_option maxHeartbeats 4000000 in
set_option maxRecDepth 100000 in
theorem wlp_X3_write_23 (C : Cx p s m args c cX3_write RX3 5 D cy ad A L) (hr : meth.sig.returnType = none) (hlk : meth.locks = false) (hL : ∀ k, prF k = true → k ∈ L) {N : Nat} {pl : Nat} (kd_pl : kd pl = 2) {st' : St} {K103 : St → Option (St)} (hK103 : ∀  (st : St), K103 st = some st' → Gm p l e (rmD 5) s m args below meth c D cy ad A L 5 0 0 (MQ below (QG D cy ad A L none st') args s 0 0 A) 103 [(0, .ref (ad 32)), (1, .ref (ad pl))] [] st) : ∀ (n : Nat) (v2 : Int32) (st : St), lp_X3_write_23 N pl K103 n v2 st = some st' → Gm p l e (rmD 5) s m args below meth c D cy ad A L 5 0 0 (MQ below (QG D cy ad A L none st') args s 0 0 A) 23 [(0, .ref (ad 32)), (1, .ref (ad pl)), (2, .int v2)] [] st := by
  intro n
  induction n with
  | zero => intro v2 st h; cases h
  | succ n ih =>
    intro v2 st h
    change lpB_X3_write_23 N pl K103 (lp_X3_write_23 N pl K103 n) v2 st = some _ at h
    unfold lpB_X3_write_23 at h
    refine g_iload_n C dX3_write_23 rfl 2 rfl ?_
    refine g_aload_n C dX3_write_24 rfl 0 rfl ?_
    refine g_getI C ok3 dX3_write_25 (hL 32 rfl) rfl 15 (by decide) lk_X3_131 rfl ?_
    refine g_icmp_ge (tgt := 103) C dX3_write_28 (by decide) h ?_ ?_
    · clear h; intro hc28 h
      refine g_sub (lv2 := [(0, .ref (ad 32)), (1, .ref (ad pl))]) [0, 1] rfl ?_
      exact hK103 _ h
    · clear h; intro hc28 h
      refine g_aload_n C dX3_write_31 rfl 0 rfl ?_
      refine g_getR (k2 := 63) C ok3 dX3_write_32 (hL 32 rfl) rfl 7 (by decide) lk_X3_29 rfl rfl ?_
      refine g_iload_n C dX3_write_35 rfl 2 rfl ?_
      refine g_iald C dX3_write_36 (hL 63 rfl) rfl rfl h ?_
      clear h; intro h
      refine g_istore_n (lv' := fun y => [(3, .int y), (0, .ref (ad 32)), (1, .ref (ad pl)), (2, .int v2)]) C dX3_write_37 rfl (by decide) (fun y => rfl) h ?_
      clear h; intro v25 h
      refine g_iconst (v := (0 : Int32)) C dX3_write_38 (by decide) ?_
      refine g_istore (lv' := fun y => [(4, .int y), (3, .int v25), (0, .ref (ad 32)), (1, .ref (ad pl)), (2, .int v2)]) C dX3_write_39 (by decide) (fun y => rfl) h ?_
      clear h; intro v26 h
      refine g_sub (lv2 := [(0, .ref (ad 32)), (1, .ref (ad pl)), (2, .int v2), (3, .int v25), (4, .int v26)]) [2, 3, 4, 1, 0] rfl ?_
      refine wlp_X3_write_41 (N := N) C hr hlk hL kd_pl ?_ _ _ _ h
      · intro s32 h
        refine g_iinc (lv' := fun y => [(2, .int y), (0, .ref (ad 32)), (1, .ref (ad pl))]) C dX3_write_97 2 rfl rfl (by decide) (fun y => rfl) h ?_
        clear h; intro v33 h
        refine g_goto (tgt := 23) C dX3_write_100 (by decide) ?_
        refine g_sub (lv2 := [(0, .ref (ad 32)), (1, .ref (ad pl)), (2, .int v33)]) [1, 2, 0] rfl ?_
        exact ih _ _ h
set_option maxHeartbeats 4000000 in
set_option maxRecDepth 100000 in
theorem wlp_X3_write_105 (C : Cx p s m args c cX3_write RX3 5 D cy ad A L) (hr : meth.sig.returnType = none) (hlk : meth.locks = false) (hL : ∀ k, prF k = true → k ∈ L) {N : Nat} {pl : Nat} (kd_pl : kd pl = 2) {st' : St} : ∀ (n : Nat) (v2 : Int32) (st : St), lp_X3_write_105 N pl n v2 st = some st' → Gm p l e (rmD 5) s m args below meth c D cy ad A L 5 0 0 (MQ below (QG D cy ad A L none st') args s 0 0 A) 105 [(0, .ref (ad 32)), (1, .ref (ad pl)), (2, .int v2)] [] st := by
  intro n
  induction n with
  | zero => intro v2 st h; cases h
  | succ n ih =>
    intro v2 st h
    change lpB_X3_write_105 N pl (lp_X3_write_105 N pl n) v2 st = some _ at h
    unfold lpB_X3_write_105 at h
    refine g_iload_n C dX3_write_105 rfl 2 rfl ?_
    refine g_aload_n C dX3_write_106 rfl 0 rfl ?_
    refine g_getI C ok3 dX3_write_107 (hL 32 rfl) rfl 15 (by decide) lk_X3_131 rfl ?_
    refine g_icmp_ge (tgt := 142) C dX3_write_110 (by decide) h ?_ ?_
    · clear h; intro hc110 h
      exact g_vret C hr hlk dX3_write_142 h
    · clear h; intro hc110 h
      refine g_aload_n C dX3_write_113 rfl 1 rfl ?_
      refine g_dup C dX3_write_114 rfl ?_
      refine g_getI C ok2 dX3_write_115 (hL _ (prF_of kd_pl (by decide))) kd_pl 3 (by decide) lk_X3_146 rfl ?_
      refine g_aload_n C dX3_write_118 rfl 0 rfl ?_
      refine g_aload_n C dX3_write_119 rfl 0 rfl ?_
      refine g_getR (k2 := 63) C ok3 dX3_write_120 (hL 32 rfl) rfl 7 (by decide) lk_X3_29 rfl rfl ?_
      refine g_iload_n C dX3_write_123 rfl 2 rfl ?_
      refine g_iald C dX3_write_124 (hL 63 rfl) rfl rfl h ?_
      clear h; intro h
      refine g_aload_n C dX3_write_125 rfl 1 rfl ?_
      refine g_getR (k2 := (pl + 2)) C ok2 dX3_write_126 (hL _ (prF_of kd_pl (by decide))) kd_pl 5 (by decide) lk_X3_151 rfl rfl ?_
      replace h := bd_some h
      obtain ⟨r36, s37, h1, h⟩ := h
      refine g_cV (As := [.int (st 63 v2.toNatClampNeg), .ref (ad (pl + 2))]) (rest := [.int (st pl 3), .ref (ad pl)]) (stk2 := [.int r36, .int (st pl 3), .ref (ad pl)]) C mf_X3_turnedIn ok3 rfl lk_X3_154 in_X3_turnedIn se_X3_turnedIn dX3_write_129 (hL 32 rfl) rfl rfl rfl rfl ⟨Nat.le_of_ble_eq_true rfl, Nat.le_of_ble_eq_true rfl⟩ (Nat.le_of_ble_eq_true rfl) ⟨Nat.le_refl 0, Nat.le_refl 0⟩ (ct_X3_turnedIn hL h1) ?_
      refine g_ior C dX3_write_132 ?_
      refine g_put (ty := .int) C ok2 dX3_write_133 (hL _ (prF_of kd_pl (by decide))) kd_pl 3 (by decide) lk_X3_146 rfl (tyX2_ok 3 (by decide)) rfl rfl rfl h ?_
      clear h; intro s38 h
      refine g_iinc (lv' := fun y => [(2, .int y), (0, .ref (ad 32)), (1, .ref (ad pl))]) C dX3_write_136 2 rfl rfl (by decide) (fun y => rfl) h ?_
      clear h; intro v39 h
      refine g_goto (tgt := 105) C dX3_write_139 (by decide) ?_
      refine g_sub (lv2 := [(0, .ref (ad 32)), (1, .ref (ad pl)), (2, .int v39)]) [1, 2, 0] rfl ?_
      exact ih _ _ h
set_option maxHeartbeats 4000000 in
set_option maxRecDepth 100000 in
theorem ct_X3_write {N : Nat} (hL : ∀ k, prF k = true → k ∈ L) {pl : Nat} {st st' : St} (h : F_X3_write N pl st = some st') : Ct l D cy ad A L yX3_write cX3_write 5 none 5 [.ref (ad 32), .ref (ad pl)] st none st' := by
  unfold F_X3_write at h
  refine ct_of (own := RX3) (by decide) rfl (Nat.le_of_ble_eq_true rfl) ?_
  intro p e s m args below meth c C hr hlk
  refine g_sub (lv2 := [(0, .ref (ad 32)), (1, .ref (ad pl))]) [0, 1] rfl ?_
  replace h := ck_some h
  obtain ⟨hg_pl, h⟩ := h
  have kd_pl : kd pl = 2 := of_decide_eq_true hg_pl
  refine g_aload_n C dX3_write_0 rfl 1 rfl ?_
  refine g_aload_n C dX3_write_1 rfl 0 rfl ?_
  refine g_getI C ok3 dX3_write_2 (hL 32 rfl) rfl 14 (by decide) lk_X3_82 rfl ?_
  refine g_put (ty := .int) C ok2 dX3_write_5 (hL _ (prF_of kd_pl (by decide))) kd_pl 1 (by decide) lk_X3_140 rfl (tyX2_ok 1 (by decide)) rfl rfl rfl h ?_
  clear h; intro s21 h
  refine g_aload_n C dX3_write_8 rfl 1 rfl ?_
  refine g_aload_n C dX3_write_9 rfl 0 rfl ?_
  refine g_getI C ok3 dX3_write_10 (hL 32 rfl) rfl 15 (by decide) lk_X3_131 rfl ?_
  refine g_put (ty := .int) C ok2 dX3_write_13 (hL _ (prF_of kd_pl (by decide))) kd_pl 2 (by decide) lk_X3_143 rfl (tyX2_ok 2 (by decide)) rfl rfl rfl h ?_
  clear h; intro s22 h
  refine g_aload_n C dX3_write_16 rfl 1 rfl ?_
  refine g_iconst (v := (0 : Int32)) C dX3_write_17 (by decide) ?_
  refine g_put (ty := .int) C ok2 dX3_write_18 (hL _ (prF_of kd_pl (by decide))) kd_pl 3 (by decide) lk_X3_146 rfl (tyX2_ok 3 (by decide)) rfl rfl rfl h ?_
  clear h; intro s23 h
  refine g_iconst (v := (0 : Int32)) C dX3_write_21 (by decide) ?_
  refine g_istore_n (lv' := fun y => [(2, .int y), (0, .ref (ad 32)), (1, .ref (ad pl))]) C dX3_write_22 rfl (by decide) (fun y => rfl) h ?_
  clear h; intro v24 h
  refine g_sub (lv2 := [(0, .ref (ad 32)), (1, .ref (ad pl)), (2, .int v24)]) [1, 2, 0] rfl ?_
  refine wlp_X3_write_23 (N := N) C hr hlk hL kd_pl ?_ _ _ _ h
  · intro s34 h
    refine g_iconst (v := (0 : Int32)) C dX3_write_103 (by decide) ?_
    refine g_istore_n (lv' := fun y => [(2, .int y), (0, .ref (ad 32)), (1, .ref (ad pl))]) C dX3_write_104 rfl (by decide) (fun y => rfl) h ?_
    clear h; intro v35 h
    refine g_sub (lv2 := [(0, .ref (ad 32)), (1, .ref (ad pl)), (2, .int v35)]) [1, 2, 0] rfl ?_
    refine wlp_X3_write_105 (N := N) C hr hlk hL kd_pl  _ _ _ h
-- X3_planFor
def F_X3_planFor (N : Nat) (v1 : Int32) (v2 : Int32) (st : St) : Option (Nat × St) :=
  ck (inb (((v1 - (1 : Int32)) * (2 : Int32)) + v2) 6) ((if (st (38 + 3 * (((v1 - (1 : Int32)) * (2 : Int32)) + v2).toNatClampNeg) 0) = 0 then lt (up st 32 11 v1) (fun (s22 : St) => lt (up s22 32 12 v2) (fun (s23 : St) => lt (fun (x24 : Int32) => lt (up s23 32 13 x24) (fun (s26 : St) => lt (up s26 32 14 (1000 : Int32)) (fun (s27 : St) => bs (F_X3_listUsed N s27) (fun (s28 : St) => ck (decide ((s28 32 11) ≠ 0)) (lt (up s28 32 10 ((((s28 32 9) + (s28 32 11)) - (1 : Int32)) / (s28 32 11))) (fun (s29 : St) => bs (F_X3_divide N 9 (0 : Int32) (0 : Int32) s29) (fun (s30 : St) => lt (up s30 32 14 ((s30 32 14) + (1 : Int32))) (fun (s31 : St) => lt (up s31 32 10 (s31 32 9)) (fun (s32 : St) => bs (F_X3_divide N 9 (0 : Int32) (0 : Int32) s32) (fun (s33 : St) => bs (F_X3_write N (38 + 3 * (((v1 - (1 : Int32)) * (2 : Int32)) + v2).toNatClampNeg) s33) (fun (s34 : St) => lt (up s34 (38 + 3 * (((v1 - (1 : Int32)) * (2 : Int32)) + v2).toNatClampNeg) 0 (1 : Int32)) (fun (s35 : St) => some ((38 + 3 * (((v1 - (1 : Int32)) * (2 : Int32)) + v2).toNatClampNeg), s35))))))))))))) (fun (j25 : Int32 → Option (Nat × St)) => (if (s23 32 12) = 0 then j25 (0 : Int32) else bs (F_X5_turnable N s23) (fun (r36 : Int32) => j25 r36))))) else some ((38 + 3 * (((v1 - (1 : Int32)) * (2 : Int32)) + v2).toNatClampNeg), st)))
set_option maxHeartbeats 4000000 in
set_option maxRecDepth 100000 in
theorem ct_X3_planFor {N : Nat} (hL : ∀ k, prF k = true → k ∈ L) {v1 : Int32} {v2 : Int32} {st st' : St} {r' : Nat} (h : F_X3_planFor N v1 v2 st = some (r', st')) : Ct l D cy ad A L yX3_planFor cX3_planFor 4 (some (.object "StepRegisters$Plan")) 24 [.ref (ad 32), .int v1, .int v2] st (some (.ref (ad r'))) st' := by
  unfold F_X3_planFor at h
  refine ct_of (own := RX3) (by decide) rfl (Nat.le_of_ble_eq_true rfl) ?_
  intro p e s m args below meth c C hr hlk
  refine g_sub (lv2 := [(0, .ref (ad 32)), (1, .int v1), (2, .int v2)]) [0, 1, 2] rfl ?_
  refine g_aload_n C dX3_planFor_0 rfl 0 rfl ?_
  refine g_getR (k2 := 37) C ok3 dX3_planFor_1 (hL 32 rfl) rfl 3 (by decide) lk_X3_11 rfl rfl ?_
  refine g_iload_n C dX3_planFor_4 rfl 1 rfl ?_
  refine g_iconst (v := (1 : Int32)) C dX3_planFor_5 (by decide) ?_
  refine g_isub C dX3_planFor_6 ?_
  refine g_iconst (v := (2 : Int32)) C dX3_planFor_7 (by decide) ?_
  refine g_imul C dX3_planFor_8 ?_
  refine g_iload_n C dX3_planFor_9 rfl 2 rfl ?_
  refine g_iadd C dX3_planFor_10 ?_
  have hb21 := (ck_some h).1
  refine g_aaldP C dX3_planFor_11 (hL 37 rfl) rfl rfl rfl h ?_
  clear h; intro h
  refine g_astore_n (lv' := [(3, .ref (ad (38 + 3 * (((v1 - (1 : Int32)) * (2 : Int32)) + v2).toNatClampNeg))), (0, .ref (ad 32)), (1, .int v1), (2, .int v2)]) C dX3_planFor_12 rfl (by decide) rfl ?_
  refine g_aload_n C dX3_planFor_13 rfl 0 rfl ?_
  refine g_getI C ok2 dX3_planFor_14 (hL _ (prF_of (kdPl hb21) (by decide))) (kdPl hb21) 0 (by decide) lk_X3_56 rfl ?_
  refine g_if_ne (tgt := 123) C dX3_planFor_17 (by decide) h ?_ ?_
  · clear h; intro hc17 h
    refine g_aload_n C dX3_planFor_123 rfl 0 rfl ?_
    exact g_aret C hr hlk (Or.inl ⟨_, rfl⟩) dX3_planFor_124 h
  · clear h; intro hc17 h
    refine g_aload_n C dX3_planFor_20 rfl 1 rfl ?_
    refine g_iload_n C dX3_planFor_21 rfl 2 rfl ?_
    refine g_put (ty := .int) C ok3 dX3_planFor_22 (hL 32 rfl) rfl 11 (by decide) lk_X3_66 rfl (tyX3_ok 11 (by decide)) rfl rfl rfl h ?_
    clear h; intro s22 h
    refine g_aload_n C dX3_planFor_25 rfl 1 rfl ?_
    refine g_iload_n C dX3_planFor_26 rfl 3 rfl ?_
    refine g_put (ty := .int) C ok3 dX3_planFor_27 (hL 32 rfl) rfl 12 (by decide) lk_X3_70 rfl (tyX3_ok 12 (by decide)) rfl rfl rfl h ?_
    clear h; intro s23 h
    refine g_aload_n C dX3_planFor_30 rfl 1 rfl ?_
    refine g_aload_n C dX3_planFor_31 rfl 1 rfl ?_
    refine g_getI C ok3 dX3_planFor_32 (hL 32 rfl) rfl 12 (by decide) lk_X3_70 rfl ?_
    replace h := lt_ex h
    obtain ⟨j25, ej25, h⟩ := h
    have hj25 : ∀ (x24 : Int32), j25 x24 = some (r', st') → Gm p l e (rmD 24) s m args below meth c D cy ad A L 4 0 0 (MQ below (QG D cy ad A L (some (.ref (ad r'))) st') args s 0 0 A) 49 [(0, .ref (ad 32)), (3, .ref (ad (38 + 3 * (((v1 - (1 : Int32)) * (2 : Int32)) + v2).toNatClampNeg)))] [.int x24, .ref (ad 32)] s23 := by
      intro x24 h
      rw [ej25] at h
      dsimp only at h
      refine g_put (ty := .int) C ok3 dX3_planFor_49 (hL 32 rfl) rfl 13 (by decide) lk_X3_79 rfl (tyX3_ok 13 (by decide)) rfl rfl rfl h ?_
      clear h; intro s26 h
      refine g_aload_n C dX3_planFor_52 rfl 0 rfl ?_
      refine g_sipush (v := (1000 : Int32)) C dX3_planFor_53 (by decide) ?_
      refine g_put (ty := .int) C ok3 dX3_planFor_56 (hL 32 rfl) rfl 14 (by decide) lk_X3_82 rfl (tyX3_ok 14 (by decide)) rfl rfl rfl h ?_
      clear h; intro s27 h
      refine g_aload_n C dX3_planFor_59 rfl 0 rfl ?_
      replace h := bs_some h
      obtain ⟨s28, h1, h⟩ := h
      refine g_cV (As := []) (rest := []) (stk2 := []) C mf_X3_listUsed ok3 rfl lk_X3_85 in_X3_listUsed se_X3_listUsed dX3_planFor_60 (hL 32 rfl) rfl rfl rfl rfl ⟨Nat.le_of_ble_eq_true rfl, Nat.le_of_ble_eq_true rfl⟩ (Nat.le_of_ble_eq_true rfl) ⟨Nat.le_refl 0, Nat.le_refl 0⟩ (ct_X3_listUsed hL h1) ?_
      refine g_aload_n C dX3_planFor_63 rfl 0 rfl ?_
      refine g_aload_n C dX3_planFor_64 rfl 0 rfl ?_
      refine g_getI C ok3 dX3_planFor_65 (hL 32 rfl) rfl 9 (by decide) lk_X3_88 rfl ?_
      refine g_aload_n C dX3_planFor_68 rfl 0 rfl ?_
      refine g_getI C ok3 dX3_planFor_69 (hL 32 rfl) rfl 11 (by decide) lk_X3_66 rfl ?_
      refine g_iadd C dX3_planFor_72 ?_
      refine g_iconst (v := (1 : Int32)) C dX3_planFor_73 (by decide) ?_
      refine g_isub C dX3_planFor_74 ?_
      refine g_aload_n C dX3_planFor_75 rfl 0 rfl ?_
      refine g_getI C ok3 dX3_planFor_76 (hL 32 rfl) rfl 11 (by decide) lk_X3_66 rfl ?_
      refine g_idiv C dX3_planFor_79 h ?_
      clear h; intro h
      refine g_put (ty := .int) C ok3 dX3_planFor_80 (hL 32 rfl) rfl 10 (by decide) lk_X3_91 rfl (tyX3_ok 10 (by decide)) rfl rfl rfl h ?_
      clear h; intro s29 h
      refine g_aload_n C dX3_planFor_83 rfl 0 rfl ?_
      refine g_iconst (v := (0 : Int32)) C dX3_planFor_84 (by decide) ?_
      refine g_iconst (v := (0 : Int32)) C dX3_planFor_85 (by decide) ?_
      replace h := bs_some h
      obtain ⟨s30, h1, h⟩ := h
      refine g_cV (As := [.int (0 : Int32), .int (0 : Int32)]) (rest := []) (stk2 := []) C mf_X3_divide ok3 rfl lk_X3_94 in_X3_divide se_X3_divide dX3_planFor_86 (hL 32 rfl) rfl rfl rfl rfl ⟨Nat.le_of_ble_eq_true rfl, Nat.le_of_ble_eq_true rfl⟩ (Nat.le_of_ble_eq_true rfl) ⟨Nat.le_refl 0, Nat.le_refl 0⟩ (ct_X3_divide hL 9 _ _ _ _ h1) ?_
      refine g_aload_n C dX3_planFor_89 rfl 0 rfl ?_
      refine g_dup C dX3_planFor_90 rfl ?_
      refine g_getI C ok3 dX3_planFor_91 (hL 32 rfl) rfl 14 (by decide) lk_X3_82 rfl ?_
      refine g_iconst (v := (1 : Int32)) C dX3_planFor_94 (by decide) ?_
      refine g_iadd C dX3_planFor_95 ?_
      refine g_put (ty := .int) C ok3 dX3_planFor_96 (hL 32 rfl) rfl 14 (by decide) lk_X3_82 rfl (tyX3_ok 14 (by decide)) rfl rfl rfl h ?_
      clear h; intro s31 h
      refine g_aload_n C dX3_planFor_99 rfl 0 rfl ?_
      refine g_aload_n C dX3_planFor_100 rfl 0 rfl ?_
      refine g_getI C ok3 dX3_planFor_101 (hL 32 rfl) rfl 9 (by decide) lk_X3_88 rfl ?_
      refine g_put (ty := .int) C ok3 dX3_planFor_104 (hL 32 rfl) rfl 10 (by decide) lk_X3_91 rfl (tyX3_ok 10 (by decide)) rfl rfl rfl h ?_
      clear h; intro s32 h
      refine g_aload_n C dX3_planFor_107 rfl 0 rfl ?_
      refine g_iconst (v := (0 : Int32)) C dX3_planFor_108 (by decide) ?_
      refine g_iconst (v := (0 : Int32)) C dX3_planFor_109 (by decide) ?_
      replace h := bs_some h
      obtain ⟨s33, h1, h⟩ := h
      refine g_cV (As := [.int (0 : Int32), .int (0 : Int32)]) (rest := []) (stk2 := []) C mf_X3_divide ok3 rfl lk_X3_94 in_X3_divide se_X3_divide dX3_planFor_110 (hL 32 rfl) rfl rfl rfl rfl ⟨Nat.le_of_ble_eq_true rfl, Nat.le_of_ble_eq_true rfl⟩ (Nat.le_of_ble_eq_true rfl) ⟨Nat.le_refl 0, Nat.le_refl 0⟩ (ct_X3_divide hL 9 _ _ _ _ h1) ?_
      refine g_aload_n C dX3_planFor_113 rfl 0 rfl ?_
      refine g_aload_n C dX3_planFor_114 rfl 1 rfl ?_
      replace h := bs_some h
      obtain ⟨s34, h1, h⟩ := h
      refine g_cV (As := [.ref (ad (38 + 3 * (((v1 - (1 : Int32)) * (2 : Int32)) + v2).toNatClampNeg))]) (rest := []) (stk2 := []) C mf_X3_write ok3 rfl lk_X3_98 in_X3_write se_X3_write dX3_planFor_115 (hL 32 rfl) rfl rfl rfl rfl ⟨Nat.le_of_ble_eq_true rfl, Nat.le_of_ble_eq_true rfl⟩ (Nat.le_of_ble_eq_true rfl) ⟨Nat.le_refl 0, Nat.le_refl 0⟩ (ct_X3_write hL h1) ?_
      refine g_aload_n C dX3_planFor_118 rfl 1 rfl ?_
      refine g_iconst (v := (1 : Int32)) C dX3_planFor_119 (by decide) ?_
      refine g_put (ty := .boolean) C ok2 dX3_planFor_120 (hL _ (prF_of (kdPl hb21) (by decide))) (kdPl hb21) 0 (by decide) lk_X3_56 rfl (tyX2_ok 0 (by decide)) rfl rfl rfl h ?_
      clear h; intro s35 h
      refine g_aload_n C dX3_planFor_123 rfl 1 rfl ?_
      exact g_aret C hr hlk (Or.inl ⟨_, rfl⟩) dX3_planFor_124 h
    refine g_if_ne (tgt := 42) C dX3_planFor_35 (by decide) h ?_ ?_
    · clear h; intro hc35 h
      refine g_aload_n C dX3_planFor_42 rfl 1 rfl ?_
      refine g_getR (k2 := 1) C ok3 dX3_planFor_43 (hL 32 rfl) rfl 0 (by decide) lk_X3_35 rfl rfl ?_
      replace h := bs_some h
      obtain ⟨r36, h1, h⟩ := h
      refine g_cV (As := []) (rest := [.ref (ad 32)]) (stk2 := [.int r36, .ref (ad 32)]) C mf_X5_turnable ok5 rfl lk_X3_73 in_X5_turnable se_X5_turnable dX3_planFor_46 (hL 1 rfl) rfl rfl rfl rfl ⟨Nat.le_of_ble_eq_true rfl, Nat.le_of_ble_eq_true rfl⟩ (Nat.le_of_ble_eq_true rfl) ⟨Nat.le_refl 0, Nat.le_refl 0⟩ (ct_X5_turnable hL h1) ?_
      refine g_sub (lv2 := [(0, .ref (ad 32)), (3, .ref (ad (38 + 3 * (((v1 - (1 : Int32)) * (2 : Int32)) + v2).toNatClampNeg)))]) [1, 0] rfl ?_
      exact hj25 _ h
    · clear h; intro hc35 h
      refine g_iconst (v := (0 : Int32)) C dX3_planFor_38 (by decide) ?_
      refine g_goto (tgt := 49) C dX3_planFor_39 (by decide) ?_
      refine g_sub (lv2 := [(0, .ref (ad 32)), (3, .ref (ad (38 + 3 * (((v1 - (1 : Int32)) * (2 : Int32)) + v2).toNatClampNeg)))]) [1, 0] rfl ?_
      exact hj25 _ h
-- X7_plan
def F_X7_plan (N : Nat) (v1 : Int32) (v2 : Int32) (v3 : Int32) (st : St) : Option (Int32 × St) :=
  bs (F_X7_isPlan v1 v2) (fun (r21 : Int32) => (if r21 = 0 then some ((-2 : Int32), st) else (if v3 < 0 then some ((-2 : Int32), st) else (if v3 ≤ (2 : Int32) then bd (F_X3_planFor N v1 v2 st) (fun (r22 : Nat) (s23 : St) => ck (decide (kd r22 = 2)) ((if v3 = 0 then some ((s23 r22 1), s23) else (if v3 = (1 : Int32) then some ((s23 r22 2), s23) else some ((s23 r22 3), s23))))) else some ((-2 : Int32), st)))))
set_option maxHeartbeats 4000000 in
set_option maxRecDepth 100000 in
theorem ct_X7_plan {N : Nat} (hL : ∀ k, prF k = true → k ∈ L) {v1 : Int32} {v2 : Int32} {v3 : Int32} {st st' : St} {r' : Int32} (h : F_X7_plan N v1 v2 v3 st = some (r', st')) : Ct l D cy ad A L yX7_plan cX7_plan 5 (some .int) 25 [.ref (ad 0), .int v1, .int v2, .int v3] st (some (.int r')) st' := by
  unfold F_X7_plan at h
  refine ct_of (own := RX7) (by decide) rfl (Nat.le_of_ble_eq_true rfl) ?_
  intro p e s m args below meth c C hr hlk
  refine g_sub (lv2 := [(0, .ref (ad 0)), (1, .int v1), (2, .int v2), (3, .int v3)]) [0, 1, 2, 3] rfl ?_
  refine g_iload_n C dX7_plan_0 rfl 1 rfl ?_
  refine g_iload_n C dX7_plan_1 rfl 2 rfl ?_
  replace h := bs_some h
  obtain ⟨r21, h1, h⟩ := h
  refine g_cS (As := [.int v1, .int v2]) (rest := []) (stk2 := [.int r21]) C mf_X7_isPlan lk_X7_105 sm_X7_isPlan dX7_plan_2 rfl rfl rfl ⟨Nat.le_of_ble_eq_true rfl, Nat.le_of_ble_eq_true rfl⟩ (Nat.le_of_ble_eq_true rfl) ⟨Nat.le_refl 0, Nat.le_refl 0⟩ (ct_X7_isPlan hL h1) ?_
  refine g_if_eq (tgt := 17) C dX7_plan_5 (by decide) h ?_ ?_
  · clear h; intro hc5 h
    refine g_bipush (v := (-2 : Int32)) C dX7_plan_17 (by decide) ?_
    exact g_iret C hr hlk dX7_plan_19 h
  · clear h; intro hc5 h
    refine g_iload_n C dX7_plan_8 rfl 3 rfl ?_
    refine g_if_lt (tgt := 17) C dX7_plan_9 (by decide) h ?_ ?_
    · clear h; intro hc9 h
      refine g_bipush (v := (-2 : Int32)) C dX7_plan_17 (by decide) ?_
      exact g_iret C hr hlk dX7_plan_19 h
    · clear h; intro hc9 h
      refine g_iload_n C dX7_plan_12 rfl 3 rfl ?_
      refine g_iconst (v := (2 : Int32)) C dX7_plan_13 (by decide) ?_
      refine g_icmp_le (tgt := 20) C dX7_plan_14 (by decide) h ?_ ?_
      · clear h; intro hc14 h
        refine g_aload_n C dX7_plan_20 rfl 0 rfl ?_
        refine g_getR (k2 := 32) C ok7 dX7_plan_21 (hL 0 rfl) rfl 5 (by decide) lk_X7_43 rfl rfl ?_
        refine g_iload_n C dX7_plan_24 rfl 1 rfl ?_
        refine g_iload_n C dX7_plan_25 rfl 2 rfl ?_
        replace h := bd_some h
        obtain ⟨r22, s23, h1, h⟩ := h
        replace h := ck_some h
        obtain ⟨hgd, h⟩ := h
        have kd_r22 : kd r22 = 2 := of_decide_eq_true hgd
        refine g_cV (As := [.int v1, .int v2]) (rest := []) (stk2 := [.ref (ad r22)]) C mf_X3_planFor ok3 rfl lk_X7_109 in_X3_planFor se_X3_planFor dX7_plan_26 (hL 32 rfl) rfl rfl rfl rfl ⟨Nat.le_of_ble_eq_true rfl, Nat.le_of_ble_eq_true rfl⟩ (Nat.le_of_ble_eq_true rfl) ⟨Nat.le_refl 0, Nat.le_refl 0⟩ (ct_X3_planFor hL h1) ?_
        refine g_astore (lv' := [(4, .ref (ad r22)), (0, .ref (ad 0)), (1, .int v1), (2, .int v2), (3, .int v3)]) C dX7_plan_29 (by decide) rfl ?_
        refine g_iload_n C dX7_plan_31 rfl 4 rfl ?_
        refine g_if_ne (tgt := 41) C dX7_plan_32 (by decide) h ?_ ?_
        · clear h; intro hc32 h
          refine g_iload_n C dX7_plan_41 rfl 4 rfl ?_
          refine g_iconst (v := (1 : Int32)) C dX7_plan_42 (by decide) ?_
          refine g_icmp_ne (tgt := 54) C dX7_plan_43 (by decide) h ?_ ?_
          · clear h; intro hc43 h
            refine g_aload C dX7_plan_54 0 rfl ?_
            refine g_getI C ok2 dX7_plan_56 (hL _ (prF_of kd_r22 (by decide))) kd_r22 3 (by decide) lk_X7_121 rfl ?_
            exact g_iret C hr hlk dX7_plan_59 h
          · clear h; intro hc43 h
            refine g_aload C dX7_plan_46 0 rfl ?_
            refine g_getI C ok2 dX7_plan_48 (hL _ (prF_of kd_r22 (by decide))) kd_r22 2 (by decide) lk_X7_118 rfl ?_
            refine g_goto (tgt := 59) C dX7_plan_51 (by decide) ?_
            exact g_iret C hr hlk dX7_plan_59 h
        · clear h; intro hc32 h
          refine g_aload C dX7_plan_35 0 rfl ?_
          refine g_getI C ok2 dX7_plan_37 (hL _ (prF_of kd_r22 (by decide))) kd_r22 1 (by decide) lk_X7_113 rfl ?_
          exact g_iret C hr hlk dX7_plan_40 h
      · clear h; intro hc14 h
        refine g_bipush (v := (-2 : Int32)) C dX7_plan_17 (by decide) ?_
        exact g_iret C hr hlk dX7_plan_19 h
-- X7_place
def F_X7_place (N : Nat) (v1 : Int32) (v2 : Int32) (v3 : Int32) (v4 : Int32) (st : St) : Option (Int32 × St) :=
  bs (F_X7_isVariable v3) (fun (r21 : Int32) => (if r21 = 0 then some ((-1 : Int32), st) else bs (F_X5_usedSet N st) (fun (r22 : Int32) => (if ((r22 >>> (v3 &&& 31)) &&& (1 : Int32)) = 0 then some ((-1 : Int32), st) else bs (F_X7_isPlan v1 v2) (fun (r23 : Int32) => (if r23 = 0 then some ((-2 : Int32), st) else (if v4 < 0 then some ((-2 : Int32), st) else (if v4 ≤ (1 : Int32) then bd (F_X3_planFor N v1 v2 st) (fun (r24 : Nat) (s25 : St) => ck (decide (kd r24 = 2)) ((if v4 = 0 then ck (inb v3 7) (some ((s25 (r24 + 1) v3.toNatClampNeg), s25)) else ck (inb v3 7) (some ((s25 (r24 + 2) v3.toNatClampNeg), s25))))) else some ((-2 : Int32), st)))))))))
set_option maxHeartbeats 4000000 in
set_option maxRecDepth 100000 in
theorem ct_X7_place {N : Nat} (hL : ∀ k, prF k = true → k ∈ L) {v1 : Int32} {v2 : Int32} {v3 : Int32} {v4 : Int32} {st st' : St} {r' : Int32} (h : F_X7_place N v1 v2 v3 v4 st = some (r', st')) : Ct l D cy ad A L yX7_place cX7_place 6 (some .int) 25 [.ref (ad 0), .int v1, .int v2, .int v3, .int v4] st (some (.int r')) st' := by
  unfold F_X7_place at h
  refine ct_of (own := RX7) (by decide) rfl (Nat.le_of_ble_eq_true rfl) ?_
  intro p e s m args below meth c C hr hlk
  refine g_sub (lv2 := [(0, .ref (ad 0)), (1, .int v1), (2, .int v2), (3, .int v3), (4, .int v4)]) [0, 1, 2, 3, 4] rfl ?_
  refine g_iload_n C dX7_place_0 rfl 3 rfl ?_
  replace h := bs_some h
  obtain ⟨r21, h1, h⟩ := h
  refine g_cS (As := [.int v3]) (rest := []) (stk2 := [.int r21]) C mf_X7_isVariable lk_X7_54 sm_X7_isVariable dX7_place_1 rfl rfl rfl ⟨Nat.le_of_ble_eq_true rfl, Nat.le_of_ble_eq_true rfl⟩ (Nat.le_of_ble_eq_true rfl) ⟨Nat.le_refl 0, Nat.le_refl 0⟩ (ct_X7_isVariable hL h1) ?_
  refine g_if_eq (tgt := 21) C dX7_place_4 (by decide) h ?_ ?_
  · clear h; intro hc4 h
    refine g_iconst (v := (-1 : Int32)) C dX7_place_21 (by decide) ?_
    exact g_iret C hr hlk dX7_place_22 h
  · clear h; intro hc4 h
    refine g_aload_n C dX7_place_7 rfl 0 rfl ?_
    refine g_getR (k2 := 1) C ok7 dX7_place_8 (hL 0 rfl) rfl 0 (by decide) lk_X7_12 rfl rfl ?_
    replace h := bs_some h
    obtain ⟨r22, h1, h⟩ := h
    refine g_cV (As := []) (rest := []) (stk2 := [.int r22]) C mf_X5_usedSet ok5 rfl lk_X7_124 in_X5_usedSet se_X5_usedSet dX7_place_11 (hL 1 rfl) rfl rfl rfl rfl ⟨Nat.le_of_ble_eq_true rfl, Nat.le_of_ble_eq_true rfl⟩ (Nat.le_of_ble_eq_true rfl) ⟨Nat.le_refl 0, Nat.le_refl 0⟩ (ct_X5_usedSet hL h1) ?_
    refine g_iload_n C dX7_place_14 rfl 3 rfl ?_
    refine g_ishr C dX7_place_15 ?_
    refine g_iconst (v := (1 : Int32)) C dX7_place_16 (by decide) ?_
    refine g_iand C dX7_place_17 ?_
    refine g_if_ne (tgt := 23) C dX7_place_18 (by decide) h ?_ ?_
    · clear h; intro hc18 h
      refine g_iload_n C dX7_place_23 rfl 1 rfl ?_
      refine g_iload_n C dX7_place_24 rfl 2 rfl ?_
      replace h := bs_some h
      obtain ⟨r23, h1, h⟩ := h
      refine g_cS (As := [.int v1, .int v2]) (rest := []) (stk2 := [.int r23]) C mf_X7_isPlan lk_X7_105 sm_X7_isPlan dX7_place_25 rfl rfl rfl ⟨Nat.le_of_ble_eq_true rfl, Nat.le_of_ble_eq_true rfl⟩ (Nat.le_of_ble_eq_true rfl) ⟨Nat.le_refl 0, Nat.le_refl 0⟩ (ct_X7_isPlan hL h1) ?_
      refine g_if_eq (tgt := 42) C dX7_place_28 (by decide) h ?_ ?_
      · clear h; intro hc28 h
        refine g_bipush (v := (-2 : Int32)) C dX7_place_42 (by decide) ?_
        exact g_iret C hr hlk dX7_place_44 h
      · clear h; intro hc28 h
        refine g_iload C dX7_place_31 4 rfl ?_
        refine g_if_lt (tgt := 42) C dX7_place_33 (by decide) h ?_ ?_
        · clear h; intro hc33 h
          refine g_bipush (v := (-2 : Int32)) C dX7_place_42 (by decide) ?_
          exact g_iret C hr hlk dX7_place_44 h
        · clear h; intro hc33 h
          refine g_iload C dX7_place_36 4 rfl ?_
          refine g_iconst (v := (1 : Int32)) C dX7_place_38 (by decide) ?_
          refine g_icmp_le (tgt := 45) C dX7_place_39 (by decide) h ?_ ?_
          · clear h; intro hc39 h
            refine g_aload_n C dX7_place_45 rfl 0 rfl ?_
            refine g_getR (k2 := 32) C ok7 dX7_place_46 (hL 0 rfl) rfl 5 (by decide) lk_X7_43 rfl rfl ?_
            refine g_iload_n C dX7_place_49 rfl 1 rfl ?_
            refine g_iload_n C dX7_place_50 rfl 2 rfl ?_
            replace h := bd_some h
            obtain ⟨r24, s25, h1, h⟩ := h
            replace h := ck_some h
            obtain ⟨hgd, h⟩ := h
            have kd_r24 : kd r24 = 2 := of_decide_eq_true hgd
            refine g_cV (As := [.int v1, .int v2]) (rest := []) (stk2 := [.ref (ad r24)]) C mf_X3_planFor ok3 rfl lk_X7_109 in_X3_planFor se_X3_planFor dX7_place_51 (hL 32 rfl) rfl rfl rfl rfl ⟨Nat.le_of_ble_eq_true rfl, Nat.le_of_ble_eq_true rfl⟩ (Nat.le_of_ble_eq_true rfl) ⟨Nat.le_refl 0, Nat.le_refl 0⟩ (ct_X3_planFor hL h1) ?_
            refine g_astore (lv' := [(5, .ref (ad r24)), (0, .ref (ad 0)), (1, .int v1), (2, .int v2), (3, .int v3), (4, .int v4)]) C dX7_place_54 (by decide) rfl ?_
            refine g_iload C dX7_place_56 5 rfl ?_
            refine g_if_ne (tgt := 71) C dX7_place_58 (by decide) h ?_ ?_
            · clear h; intro hc58 h
              refine g_aload C dX7_place_71 0 rfl ?_
              refine g_getR (k2 := (r24 + 2)) C ok2 dX7_place_73 (hL _ (prF_of kd_r24 (by decide))) kd_r24 5 (by decide) lk_X7_131 rfl rfl ?_
              refine g_iload_n C dX7_place_76 rfl 4 rfl ?_
              refine g_iald C dX7_place_77 (hL _ (prF_of (kdP2 kd_r24) (by decide))) (kdP2 kd_r24) (lnP2 kd_r24) h ?_
              clear h; intro h
              exact g_iret C hr hlk dX7_place_78 h
            · clear h; intro hc58 h
              refine g_aload C dX7_place_61 0 rfl ?_
              refine g_getR (k2 := (r24 + 1)) C ok2 dX7_place_63 (hL _ (prF_of kd_r24 (by decide))) kd_r24 4 (by decide) lk_X7_128 rfl rfl ?_
              refine g_iload_n C dX7_place_66 rfl 4 rfl ?_
              refine g_iald C dX7_place_67 (hL _ (prF_of (kdP1 kd_r24) (by decide))) (kdP1 kd_r24) (lnP1 kd_r24) h ?_
              clear h; intro h
              refine g_goto (tgt := 78) C dX7_place_68 (by decide) ?_
              exact g_iret C hr hlk dX7_place_78 h
          · clear h; intro hc39 h
            refine g_bipush (v := (-2 : Int32)) C dX7_place_42 (by decide) ?_
            exact g_iret C hr hlk dX7_place_44 h
    · clear h; intro hc18 h
      refine g_iconst (v := (-1 : Int32)) C dX7_place_21 (by decide) ?_
      exact g_iret C hr hlk dX7_place_22 h
-- X4_before
def lpB_X4_before_14 (v3 : Int32) (a : Nat) (st : St) (K32 : Int32 → Option (Int32)) (self : Int32 → Option (Int32)) (v4 : Int32) : Option (Int32) :=
  (if v4 < 0 then some (-1 : Int32) else ck (inb v4 30) (ck (inb (st 24 v4.toNatClampNeg) (ln a)) ((if (st a (st 24 v4.toNatClampNeg).toNatClampNeg) = v3 then K32 v4 else lt (v4 + (-1 : Int32)) (fun (v23 : Int32) => self v23)))))
def lp_X4_before_14 (v3 : Int32) (a : Nat) (st : St) (K32 : Int32 → Option (Int32)) : Nat → Int32 → Option (Int32) := itf (lpB_X4_before_14 v3 a st K32) (fun _ => none)
def F_X4_before (N : Nat) (v1 : Int32) (a : Nat) (st : St) : Option (Int32) :=
  ck (decide (kd a = 9)) (ck (inb v1 30) (ck (inb (st 24 v1.toNatClampNeg) (ln a)) (lt (st a (st 24 v1.toNatClampNeg).toNatClampNeg) (fun (v21 : Int32) => lt (v1 - (1 : Int32)) (fun (v22 : Int32) => lp_X4_before_14 v21 a st (fun (v24 : Int32) => ck (inb v24 30) (some (st 24 v24.toNatClampNeg))) N v22)))))
set_option maxHeartbeats 4000000 in
set_option maxRecDepth 100000 in
theorem wlp_X4_before_14 (C : Cx p s m args c cX4_before RX4 5 D cy ad A L) (hr : meth.sig.returnType = (some .int)) (hlk : meth.locks = false) (hL : ∀ k, prF k = true → k ∈ L) {N : Nat} {v3 : Int32} {a : Nat} (kd_a : kd a = 9) {r' : Int32}  {st : St} {K32 : Int32 → Option (Int32)} (hK32 : ∀ (v4 : Int32), K32 v4 = some r' → Gm p l e (rmD 1) s m args below meth c D cy ad A L 5 0 0 (MQ below (QG D cy ad A L (some (.int r')) st) args s 0 0 A) 32 [(0, .ref (ad 23)), (4, .int v4)] [] st) : ∀ (n : Nat) (v4 : Int32), lp_X4_before_14 v3 a st K32 n v4 = some r' → Gm p l e (rmD 1) s m args below meth c D cy ad A L 5 0 0 (MQ below (QG D cy ad A L (some (.int r')) st) args s 0 0 A) 14 [(0, .ref (ad 23)), (2, .ref (ad a)), (3, .int v3), (4, .int v4)] [] st := by
  intro n
  induction n with
  | zero => intro v4 h; cases h
  | succ n ih =>
    intro v4 h
    change lpB_X4_before_14 v3 a st K32 (lp_X4_before_14 v3 a st K32 n) v4 = some _ at h
    unfold lpB_X4_before_14 at h
    refine g_iload C dX4_before_14 3 rfl ?_
    refine g_if_lt (tgt := 46) C dX4_before_16 (by decide) h ?_ ?_
    · clear h; intro hc16 h
      refine g_iconst (v := (-1 : Int32)) C dX4_before_46 (by decide) ?_
      exact g_iretP C hr hlk dX4_before_47 h
    · clear h; intro hc16 h
      refine g_aload_n C dX4_before_19 rfl 1 rfl ?_
      refine g_aload_n C dX4_before_20 rfl 0 rfl ?_
      refine g_getR (k2 := 24) C ok4 dX4_before_21 (hL 23 rfl) rfl 0 (by decide) lk_X4_9 rfl rfl ?_
      refine g_iload C dX4_before_24 3 rfl ?_
      refine g_iald C dX4_before_26 (hL 24 rfl) rfl rfl h ?_
      clear h; intro h
      refine g_iald C dX4_before_27 (hL _ (prF_of kd_a (by decide))) kd_a rfl h ?_
      clear h; intro h
      refine g_iload_n C dX4_before_28 rfl 2 rfl ?_
      refine g_icmp_ne (tgt := 40) C dX4_before_29 (by decide) h ?_ ?_
      · clear h; intro hc29 h
        refine g_iinc (lv' := fun y => [(4, .int y), (0, .ref (ad 23)), (2, .ref (ad a)), (3, .int v3)]) C dX4_before_40 3 rfl rfl (by decide) (fun y => rfl) h ?_
        clear h; intro v23 h
        refine g_goto (tgt := 14) C dX4_before_43 (by decide) ?_
        refine g_sub (lv2 := [(0, .ref (ad 23)), (2, .ref (ad a)), (3, .int v3), (4, .int v23)]) [1, 2, 3, 0] rfl ?_
        exact ih _ h
      · clear h; intro hc29 h
        refine g_sub (lv2 := [(0, .ref (ad 23)), (4, .int v4)]) [0, 3] rfl ?_
        exact hK32 _ h
set_option maxHeartbeats 4000000 in
set_option maxRecDepth 100000 in
theorem ct_X4_before {N : Nat} (hL : ∀ k, prF k = true → k ∈ L) {v1 : Int32} {a : Nat} {st : St} {r' : Int32} (h : F_X4_before N v1 a st = some r') : Ct l D cy ad A L yX4_before cX4_before 5 (some .int) 1 [.ref (ad 23), .int v1, .ref (ad a)] st (some (.int r')) st := by
  unfold F_X4_before at h
  refine ct_of (own := RX4) (by decide) rfl (Nat.le_of_ble_eq_true rfl) ?_
  intro p e s m args below meth c C hr hlk
  refine g_sub (lv2 := [(0, .ref (ad 23)), (1, .int v1), (2, .ref (ad a))]) [0, 1, 2] rfl ?_
  replace h := ck_some h
  obtain ⟨hg_a, h⟩ := h
  have kd_a : kd a = 9 := of_decide_eq_true hg_a
  refine g_aload_n C dX4_before_0 rfl 2 rfl ?_
  refine g_aload_n C dX4_before_1 rfl 0 rfl ?_
  refine g_getR (k2 := 24) C ok4 dX4_before_2 (hL 23 rfl) rfl 0 (by decide) lk_X4_9 rfl rfl ?_
  refine g_iload_n C dX4_before_5 rfl 1 rfl ?_
  refine g_iald C dX4_before_6 (hL 24 rfl) rfl rfl h ?_
  clear h; intro h
  refine g_iald C dX4_before_7 (hL _ (prF_of kd_a (by decide))) kd_a rfl h ?_
  clear h; intro h
  refine g_istore_n (lv' := fun y => [(3, .int y), (0, .ref (ad 23)), (1, .int v1), (2, .ref (ad a))]) C dX4_before_8 rfl (by decide) (fun y => rfl) h ?_
  clear h; intro v21 h
  refine g_iload_n C dX4_before_9 rfl 2 rfl ?_
  refine g_iconst (v := (1 : Int32)) C dX4_before_10 (by decide) ?_
  refine g_isub C dX4_before_11 ?_
  refine g_istore (lv' := fun y => [(4, .int y), (3, .int v21), (0, .ref (ad 23)), (1, .int v1), (2, .ref (ad a))]) C dX4_before_12 (by decide) (fun y => rfl) h ?_
  clear h; intro v22 h
  refine g_sub (lv2 := [(0, .ref (ad 23)), (2, .ref (ad a)), (3, .int v21), (4, .int v22)]) [2, 4, 1, 0] rfl ?_
  refine wlp_X4_before_14 (N := N) C hr hlk hL kd_a ?_ _ _ h
  · intro v24 h
    refine g_aload_n C dX4_before_32 rfl 0 rfl ?_
    refine g_getR (k2 := 24) C ok4 dX4_before_33 (hL 23 rfl) rfl 0 (by decide) lk_X4_9 rfl rfl ?_
    refine g_iload C dX4_before_36 1 rfl ?_
    refine g_iald C dX4_before_38 (hL 24 rfl) rfl rfl h ?_
    clear h; intro h
    exact g_iretP C hr hlk dX4_before_39 h
end SM
