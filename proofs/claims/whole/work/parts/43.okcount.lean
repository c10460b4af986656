theorem ok_count {st : St} {N : Nat} (hN : 129 ≤ N) (hI : Inv st) (v1 : Int32) : Ok (F_X7_count N v1) (F_X8_count N v1) st := by
  have hI0 := hI
  obtain ⟨S, kp, SI, hI⟩ := hI
  have hS := hI.1
  by_cases e0 : v1 = 0
  · subst e0
    refine Ok.same hI0 (nI (sN S)) ?_ ?_
    · show some (st 1 0, st) = _
      rw [hI.2.1.1]
    · show some (st 70 0, st) = _
      rw [hI.2.2.1.1]
  by_cases e1 : v1 = 1
  · subst e1
    obtain ⟨sa, a1, a2, a3⟩ := lookX (N := N) (t := 0) (by omega) hS (by decide) hI.2.1
    have hIb : InvS S kp SI sa := hI.look (by rw [a3 70 (by decide) (by decide)]) (fun k hk => by
      simp only [sIds, List.mem_cons, List.not_mem_nil, or_false, not_or] at hk
      exact a3 k (by omega) (by omega))
    obtain ⟨g, b1, -⟩ := lineM (N := N) (t := 0) (by omega) hS hIb.2.2.1 (by decide)
    refine ⟨nI (sl S 0 (sN S)).length, sa, upr sa 79 g, ?_, ?_, S, kp, SI, ?_⟩
    · show bs (F_X4_look N (nI 0) st) (fun (s22 : St) => some ((s22 23 1), s22)) = _
      rw [a1, bs_s, a2.1]
    · show bd (F_X8_layLine N (nI 0) sa) (fun (r21 : Int32) (s22 : St) => some (r21, s22)) = _
      rw [b1]
      rfl
    · exact hIb.look (by simp [upr_app]) (fun k hk => by rw [upr_app, if_neg (by rintro rfl; exact hk (by decide))])
  by_cases e2 : v1 = 2
  · subst e2
    obtain ⟨g, b1⟩ := onesM (N := N) (by omega) hS hI.2.2.1
    refine ⟨nI (usedS S), st, upr st 79 g, ?_, ?_, S, kp, SI, ?_⟩
    · show bs (F_X5_usedSet N st) (fun (r23 : Int32) => some (r23, st)) = _
      rw [usedX (by omega) hS hI.2.1, bs_s]
    · show bd (F_X8_usedOnes N st) (fun (r23 : Int32) (s24 : St) => some (r23, s24)) = _
      rw [b1]
      rfl
    · exact hI.look (by simp [upr_app]) (fun k hk => by rw [upr_app, if_neg (by rintro rfl; exact hk (by decide))])
  by_cases e3 : v1 = 3
  · subst e3
    obtain ⟨sa, a1, a2, a3⟩ := weightsX (N := N) hN hS hI.2.1
    obtain ⟨sb, b1, b2, b3⟩ := takeX (N := N) hN (wS_le hS) a2
    have hIb : InvS S kp SI sb := hI.look (by rw [b3 70 (by decide) (by decide) (by decide) (by decide) (by decide), a3 70 (by decide) (by decide) (by decide) (by decide) (by decide)]) (fun k hk => by rw [b3.out hk, a3.out hk])
    obtain ⟨gn, sc, c1, c2, c3, c4⟩ := takenM (N := N) hN hS hIb.2.2.1
    have hIc : InvS S kp SI sc := hIb.look (c4 0 (by decide)) (fun k hk => c3 k (tk7_out hk))
    obtain ⟨g, d1⟩ := onesM (N := N) (by omega) hS hIc.2.2.1
    have hloop := gcM_lp (st := upr sc 79 g) (w := wS S) (tk := (gRun 49 (G0 (wS S))).2.1) (by simp only [upr_app, Nat.reduceEqDiff, if_false]; exact c2.1) (by simp only [upr_app, Nat.reduceEqDiff, if_false]; exact c2.2.2.1) (fst0 S) N 0 (by omega) (by omega)
    refine ⟨nI (fst0 S + lf (wS S) (gRun 49 (G0 (wS S))).2.1), sb, upr sc 79 g, ?_, ?_, S, kp, SI, ?_⟩
    · show bs (F_X7_weights N st) (fun (s24 : St) => bs (F_X0_take N s24) (fun (s25 : St) => bs (F_X7_first s25) (fun (r26 : Int32) => some ((r26 + (s25 65 5)), s25)))) = _
      rw [a1, bs_s, b1, bs_s, firstX hS hIb.2.1.1, bs_s, b2.2.2.2.2.2, nI_add]
    · show bd (F_X8_greedyCost N sb) (fun (r25 : Int32) (s26 : St) => some (r25, s26)) = _
      unfold F_X8_greedyCost
      rw [c1, bs_s, d1, bd_s]
      simp only [lt_eq]
      have hu := used_lt hS
      have hl : nI (fst0 S + sumR (fun k => if k / 7 < k % 7 ∧ (gRun 49 (G0 (wS S))).2.1 k = false then wS S k else 0) 0) = nI (fst0 S) := rfl
      rw [hl] at hloop
      by_cases e : sN S = 0
      · rw [if_pos (by rw [used_ne.mpr e]; rfl)]
        rw [show nI (fst0 S) = 0 by unfold fst0; rw [if_pos e]; rfl] at hloop
        rw [← nI0] at hloop ⊢
        rw [hloop]
        rfl
      · rw [if_neg (by rw [L0, nI_eq (by omega) (by omega)]; exact fun q => e (used_ne.mp q))]
        rw [show nI (fst0 S) = 1 by unfold fst0; rw [if_neg e]; rfl, nI0] at hloop
        rw [hloop]
        rfl
    · exact hIc.look (by simp [upr_app]) (fun k hk => by rw [upr_app, if_neg (by rintro rfl; exact hk (by decide))])
  by_cases e4 : v1 = 4
  · subst e4
    obtain ⟨sa, a1, a2, a3⟩ := weightsX (N := N) hN hS hI.2.1
    obtain ⟨sb, b1, b2, b3⟩ := takeX (N := N) hN (wS_le hS) a2
    have hIb : InvS S kp SI sb := hI.look (by rw [b3 70 (by decide) (by decide) (by decide) (by decide) (by decide), a3 70 (by decide) (by decide) (by decide) (by decide) (by decide)]) (fun k hk => by rw [b3.out hk, a3.out hk])
    obtain ⟨gn, sc, c1, c2, c3, c4⟩ := takenM (N := N) hN hS hIb.2.2.1
    refine ⟨nI (gRun 49 (G0 (wS S))).2.2.2.2, sb, sc, ?_, ?_, S, kp, SI, ?_⟩
    · show bs (F_X7_weights N st) (fun (s27 : St) => bs (F_X0_take N s27) (fun (s28 : St) => some ((s28 65 4), s28))) = _
      rw [a1, bs_s, b1, bs_s, b2.2.2.2.2.1]
    · show bs (F_X8_layTaken N sb) (fun (s27 : St) => some ((s27 70 26), s27)) = _
      rw [c1, bs_s, c2.2.2.2.2.2.1]
    · exact hIb.look (c4 0 (by decide)) (fun k hk => c3 k (tk7_out hk))
  by_cases e5 : v1 = 5
  · subst e5
    obtain ⟨sa, a1, a2, a3⟩ := weightsX (N := N) hN hS hI.2.1
    obtain ⟨g, b1⟩ := boundX (N := N) hN hS a2
    have hIb : InvS S kp SI sa := hI.look (by rw [a3 70 (by decide) (by decide) (by decide) (by decide) (by decide)]) (fun k hk => by rw [a3.out hk])
    have hIc : InvS S kp SI (upr sa 67 g) := hIb.look (by simp [upr_app]) (fun k hk => by rw [upr_app, if_neg (by rintro rfl; exact hk (by decide))])
    obtain ⟨sc, c1, c2⟩ := boundM (N := N) hN hS hIc.2.2.1
    refine ⟨nI (fst0 S) + bRun ((mems (usedS S)).length - 1) (rW (wS S)) (nI (sumR (rW (wS S)) 49)), upr sa 67 g, sc, ?_, ?_, S, kp, SI, ?_⟩
    · show bs (F_X7_first st) (fun (r29 : Int32) => bs (F_X7_weights N st) (fun (s30 : St) => bs (F_X5_usedSet N s30) (fun (r31 : Int32) => bs (F_J6_bitCount_0f7a4 r31) (fun (r32 : Int32) => bd (F_X0_leftByGreatest N (r32 - (1 : Int32)) s30) (fun (r33 : Int32) (s34 : St) => some ((r29 + r33), s34)))))) = _
      rw [firstX hS hI.2.1.1, bs_s, a1, bs_s, usedX (by omega) hS hIb.2.1, bs_s, bitCX _ (used_lt hS), bs_s, b1]
      rfl
    · show bd (F_X8_bound N (upr sa 67 g)) (fun (r28 : Int32) (s29 : St) => some (r28, s29)) = _
      rw [c1]
      rfl
    · refine hIc.look (by rw [c2 70 (by decide)]) (fun k hk => c2 k ?_)
      simp only [sIds, List.mem_cons, List.not_mem_nil, or_false, not_or] at *
      omega
  by_cases e6 : v1 = 6
  · subst e6
    refine Ok.same hI0 (nI ((kp 0).toNat + 2 * (kp 1).toNat)) ?_ ?_
    · show some (st 0 2, st) = _
      rw [hI.2.2.2.2.1]
    · have k0 := hI.2.2.2.2.2.1 0 (by decide)
      have k1 := hI.2.2.2.2.2.1 1 (by decide)
      show (ck (inb (0 : Int32) 2) (lt (fun (x30 : Int32) => ck (inb (1 : Int32) 2) ((if (st 94 1) = 0 then some ((x30 + (0 : Int32)), st) else some ((x30 + (2 : Int32)), st)))) (fun (j31 : Int32 → Option (Int32 × St)) => (if (st 94 0) = 0 then j31 (0 : Int32) else j31 (1 : Int32))))) = _
      rw [k0, k1]
      cases kp 0 <;> cases kp 1 <;> rfl
  have hX : F_X7_count N v1 st = (if v1 < (10 : Int32) then some ((-2 : Int32), st) else (if (17 : Int32) ≤ v1 then some ((-2 : Int32), st) else ck (inb (v1 - (10 : Int32)) 7) (some ((st 7 (v1 - (10 : Int32)).toNatClampNeg), st)))) := by
    unfold F_X7_count
    rw [lt_eq, if_neg e0, if_neg e1, if_neg e2, if_neg e3, if_neg e4, if_neg e5, if_neg e6]
  have hM : F_X8_count N v1 st = (bs (F_X8_in v1 (10 : Int32) (16 : Int32)) (fun (r32 : Int32) => (if r32 = 0 then some ((-2 : Int32), st) else ck (inb (v1 - (10 : Int32)) 7) (some ((st 76 (v1 - (10 : Int32)).toNatClampNeg), st))))) := by
    unfold F_X8_count
    rw [if_neg e0, if_neg e1, if_neg e2, if_neg e3, if_neg e4, if_neg e5, if_neg e6]
  by_cases a : v1 < 10
  · refine Ok.same hI0 (-2) ?_ ?_
    · rw [hX, if_pos a]
    · rw [hM, in_spec, if_pos a, bs_s, if_pos rfl]
  · by_cases b : (17 : Int32) ≤ v1
    · refine Ok.same hI0 (-2) ?_ ?_
      · rw [hX, if_neg a, if_pos b]
      · have b2 : (16 : Int32) < v1 := by
          rw [i32_le, show (17 : Int32).toInt = 17 from by decide] at b
          rw [i32_lt, show (16 : Int32).toInt = 16 from by decide]
          omega
        rw [hM, in_spec, if_neg a, if_pos b2, bs_s, if_pos rfl]
    · have hj : ∃ j : Nat, j < 7 ∧ v1 = nI (10 + j) := by
        rcases ix v1 17 (by decide) with ⟨j, hj, rfl⟩ | h | h
        · rw [show (10 : Int32) = nI 10 from rfl, nI_ltI (by omega) (by omega)] at a
          exact ⟨j - 10, by omega, by rw [show 10 + (j - 10) = j by omega]⟩
        · exfalso
          rw [i32_lt, show (10 : Int32).toInt = 10 from by decide] at a
          rw [i32_lt, show (0 : Int32).toInt = 0 from by decide] at h
          omega
        · exact absurd h b
      obtain ⟨j, hj, rfl⟩ := hj
      have es : nI (10 + j) - 10 = nI j := by
        rw [show (10 : Int32) = nI 10 from rfl, pk_sub (by omega), show 10 + j - 10 = j by omega]
      have b2 : ¬ (16 : Int32) < nI (10 + j) := by
        rw [show (16 : Int32) = nI 16 from rfl, nI_ltI (by omega) (by omega)]
        omega
      refine Ok.same hI0 (nI (sH S j)) ?_ ?_
      · rw [hX, if_neg a, if_neg b, es, ck_in hj (by decide), nI_clamp (by omega), (hI.2.1.2.2.2 j hj).2]
      · rw [hM, in_spec, if_neg a, if_neg b2, bs_s, if_neg e10, es, ck_in hj (by decide), nI_clamp (by omega), (hI.2.2.1.2.2.1 j hj).2]
