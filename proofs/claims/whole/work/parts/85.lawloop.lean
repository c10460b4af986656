set_option maxHeartbeats 4000000 in
set_option maxRecDepth 100000 in
theorem law_loop {p : Program} {l : Launch} {e : Env} {s : State} {m : MethodId} {below : List Frame} {meth : Method} {c : Code} {D : va_G} {cy : Nat → ClassId} {ad : Nat → Nat} {cells slots b Lz : Nat} {xs : Nat → Int32} (C : Cx p s m #[Value.ref b] c cL_law RL 4 D cy ad (fun q => s.heap.size ≤ q) LAl) (hLz : Lz ≤ 2560) (hcells : cells ≤ 600000) (hslots : slots ≤ 7302250) (hX : va_X b Lz xs s s.heap) (hbl : b < s.heap.size) (hbA : ¬ (fun q => s.heap.size ≤ q) b) (hr : meth.sig.returnType = ret) (hlk : meth.locks = false) : ∀ (n k : Nat) (st : St), 5 * k ≤ Lz → Lz - 5 * k < n → Inv st → Gm p l e room_1 s m #[Value.ref b] below meth c D cy ad (fun q => s.heap.size ≤ q) LAl 4 cells slots (lw_Z below #[Value.ref b] s) 18 [(3, .int (nI (5 * k))), (2, .ref (ad 70)), (1, .ref (ad 0)), (0, .ref b)] [] st := by
  intro n
  induction n with
  | zero => intro k st h1 h2; omega
  | succ n ih =>
    intro k st h1 h2 hI
    refine g_iload_n C dL_law_18 rfl 0 rfl ?_
    refine g_aload_n C dL_law_19 rfl 3 rfl ?_
    refine l_len C hX hbl hbA dL_law_20 ?_
    refine g_iconst (v := (5 : Int32)) C dL_law_21 (by decide) ?_
    refine g_isub C dL_law_22 ?_
    refine l_gt (tgt := 748) C dL_law_23 (by decide) (fun hc => ?_) (fun hc => ?_)
    · refine g_iconst (v := (1 : Int32)) C dL_law_748 (by decide) ?_
      exact l_ret C hr hlk hcells hslots dL_law_749
    · have h5 : 5 * k + 5 ≤ Lz := by
        rw [i32_lt, L5, pk_sub_toInt (by omega) (by omega), nI_toInt (by omega)] at hc
        omega
      have hend : ∀ st : St, Inv st → Gm p l e room_1 s m #[Value.ref b] below meth c D cy ad (fun q => s.heap.size ≤ q) LAl 4 cells slots (lw_Z below #[Value.ref b] s) 742 [(3, .int (nI (5 * k))), (2, .ref (ad 70)), (1, .ref (ad 0)), (0, .ref b)] [] st := by
        intro st hI
        refine l_iinc (v := nI (5 * (k + 1))) (lv' := [(3, .int (nI (5 * (k + 1)))), (2, .ref (ad 70)), (1, .ref (ad 0)), (0, .ref b)]) C dL_law_742 0 rfl (by rw [show Int32.ofInt 5 = nI 5 from by decide, nI_add]; rfl) (by decide) rfl ?_
        refine g_goto (tgt := 18) C dL_law_745 (by decide) ?_
        exact ih (k + 1) st (by omega) (by omega) hI
      refine g_aload_n C dL_law_26 rfl 3 rfl ?_
      refine g_iload_n C dL_law_27 rfl 0 rfl ?_
      refine l_sld C hX hbl hbA (by omega) hLz dL_law_28 ?_
      refine g_bipush (v := (31 : Int32)) C dL_law_29 (by decide) ?_
      refine g_iand C dL_law_31 ?_
      rcases ix (xs (5 * k) &&& 31) 19 (by decide) with ⟨j, hj, hw⟩ | hw
      · rcases (show j = 0 ∨ j = 1 ∨ j = 2 ∨ j = 3 ∨ j = 4 ∨ j = 5 ∨ j = 6 ∨ j = 7 ∨ j = 8 ∨ j = 9 ∨ j = 10 ∨ j = 11 ∨ j = 12 ∨ j = 13 ∨ j = 14 ∨ j = 15 ∨ j = 16 ∨ j = 17 ∨ j = 18 by omega) with rfl | rfl | rfl | rfl | rfl | rfl | rfl | rfl | rfl | rfl | rfl | rfl | rfl | rfl | rfl | rfl | rfl | rfl | rfl
        · refine g_swIn (k := nI 0) (tgt := 124) C dL_law_32 hw (by decide) (by decide) (off := 92) rfl (by decide) ?_
          exact law_put C hLz hcells hslots hX hbl hbA h5 hI hend
        · refine g_swIn (k := nI 1) (tgt := 177) C dL_law_32 hw (by decide) (by decide) (off := 145) rfl (by decide) ?_
          exact law_drop C hLz hcells hslots hX hbl hbA h5 hI hend
        · refine g_swIn (k := nI 2) (tgt := 200) C dL_law_32 hw (by decide) (by decide) (off := 168) rfl (by decide) ?_
          exact law_cross C hLz hcells hslots hX hbl hbA h5 hI hend
        · refine g_swIn (k := nI 3) (tgt := 223) C dL_law_32 hw (by decide) (by decide) (off := 191) rfl (by decide) ?_
          exact law_told C hLz hcells hslots hX hbl hbA h5 hI hend
        · refine g_swIn (k := nI 4) (tgt := 256) C dL_law_32 hw (by decide) (by decide) (off := 224) rfl (by decide) ?_
          exact law_free C hLz hcells hslots hX hbl hbA h5 hI hend
        · refine g_swIn (k := nI 5) (tgt := 289) C dL_law_32 hw (by decide) (by decide) (off := 257) rfl (by decide) ?_
          exact law_set C hLz hcells hslots hX hbl hbA h5 hI hend
        · refine g_swIn (k := nI 6) (tgt := 322) C dL_law_32 hw (by decide) (by decide) (off := 290) rfl (by decide) ?_
          exact law_value C hLz hcells hslots hX hbl hbA h5 hI hend
        · refine g_swIn (k := nI 7) (tgt := 346) C dL_law_32 hw (by decide) (by decide) (off := 314) rfl (by decide) ?_
          exact law_sight C hLz hcells hslots hX hbl hbA h5 hI hend
        · refine g_swIn (k := nI 8) (tgt := 369) C dL_law_32 hw (by decide) (by decide) (off := 337) rfl (by decide) ?_
          exact law_plan C hLz hcells hslots hX hbl hbA h5 hI hend
        · refine g_swIn (k := nI 9) (tgt := 412) C dL_law_32 hw (by decide) (by decide) (off := 380) rfl (by decide) ?_
          exact law_place C hLz hcells hslots hX hbl hbA h5 hI hend
        · refine g_swIn (k := nI 10) (tgt := 465) C dL_law_32 hw (by decide) (by decide) (off := 433) rfl (by decide) ?_
          exact law_step C hLz hcells hslots hX hbl hbA h5 hI hend
        · refine g_swIn (k := nI 11) (tgt := 518) C dL_law_32 hw (by decide) (by decide) (off := 486) rfl (by decide) ?_
          exact law_run C hLz hcells hslots hX hbl hbA h5 hI hend
        · refine g_swIn (k := nI 12) (tgt := 551) C dL_law_32 hw (by decide) (by decide) (off := 519) rfl (by decide) ?_
          exact law_weight C hLz hcells hslots hX hbl hbA h5 hI hend
        · refine g_swIn (k := nI 13) (tgt := 584) C dL_law_32 hw (by decide) (by decide) (off := 552) rfl (by decide) ?_
          exact law_taken C hLz hcells hslots hX hbl hbA h5 hI hend
        · refine g_swIn (k := nI 14) (tgt := 617) C dL_law_32 hw (by decide) (by decide) (off := 585) rfl (by decide) ?_
          exact law_exchange C hLz hcells hslots hX hbl hbA h5 hI hend
        · refine g_swIn (k := nI 15) (tgt := 650) C dL_law_32 hw (by decide) (by decide) (off := 618) rfl (by decide) ?_
          exact law_hand C hLz hcells hslots hX hbl hbA h5 hI hend
        · refine g_swIn (k := nI 16) (tgt := 673) C dL_law_32 hw (by decide) (by decide) (off := 641) rfl (by decide) ?_
          exact law_count C hLz hcells hslots hX hbl hbA h5 hI hend
        · refine g_swIn (k := nI 17) (tgt := 696) C dL_law_32 hw (by decide) (by decide) (off := 664) rfl (by decide) ?_
          exact law_image C hLz hcells hslots hX hbl hbA h5 hI hend
        · refine g_swIn (k := nI 18) (tgt := 719) C dL_law_32 hw (by decide) (by decide) (off := 687) rfl (by decide) ?_
          exact law_restore C hLz hcells hslots hX hbl hbA h5 hI hend
      · refine g_swOut (tgt := 742) C dL_law_32 ?_ (by decide) (hend st hI)
        rcases hw with hw | hw
        · left; rw [i32_lt] at hw; exact hw
        · right; rw [i32_le, show (nI 19).toInt = 19 from by decide] at hw; omega
