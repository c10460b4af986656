theorem res_a {S : Sn} {j : Nat} (hj : j < 2) (hn : sN S ≤ 10) (K : St → Option (Int32 × St)) : ∀ (q i : Nat) (st : St), i ≤ sN S → sN S - i < q → st 70 0 = nI (sN S) → ImgRep j S st → (∀ c, c < i → st 71 c = nI (sK S c) ∧ st 72 c = nI (sT S c) ∧ st 73 c = nI (sL S c) ∧ st 74 c = nI (sR S c)) → ∃ st1 : St, lp_X8_restore_44 (nI (62 * j)) K q (nI i) st = K st1 ∧ (∀ c, c < sN S → st1 71 c = nI (sK S c) ∧ st1 72 c = nI (sT S c) ∧ st1 73 c = nI (sL S c) ∧ st1 74 c = nI (sR S c)) ∧ ∀ k, (k < 71 ∨ 74 < k) → st1 k = st k := by
  intro q
  induction q with
  | zero => intro i st h1 h2; omega
  | succ q ih =>
    intro i st h1 h2 hst himg h3
    change ∃ st1 : St, lpB_X8_restore_44 (nI (62 * j)) K (lp_X8_restore_44 (nI (62 * j)) K q) (nI i) st = _ ∧ _
    unfold lpB_X8_restore_44
    rw [hst]
    by_cases hi : i = sN S
    · rw [hi, if_pos (nI_le (Nat.le_refl _) (by omega))]
      exact ⟨st, rfl, by rw [hi] at h3; exact h3, fun _ _ => rfl⟩
    · have hin : i < sN S := by omega
      rw [if_neg (nI_ge hin (by omega))]
      have e0 : nI (62 * j) + (4 : Int32) * nI i = nI (62 * j + 4 * i) := by rw [L4, pk_mul, nI_add]
      have e1 : nI (62 * j + 4 * i) + 1 = nI (62 * j + 4 * i + 1) := nI_1 _
      have e2 : nI (62 * j + 4 * i) + 2 = nI (62 * j + 4 * i + 2) := nI_add _ 2
      have e3 : nI (62 * j + 4 * i) + 3 = nI (62 * j + 4 * i + 3) := nI_add _ 3
      obtain ⟨y1, y2, y3, y4⟩ := himg.2.1 i hin
      simp only [e0, e1, e2, e3, lt_eq, nI_1, ck_in (show i < 10 by omega) (show (10 : Nat) < 2 ^ 31 by decide), ck_in (show 62 * j + 4 * i < 124 by omega) (show (124 : Nat) < 2 ^ 31 by decide), ck_in (show 62 * j + 4 * i + 1 < 124 by omega) (show (124 : Nat) < 2 ^ 31 by decide), ck_in (show 62 * j + 4 * i + 2 < 124 by omega) (show (124 : Nat) < 2 ^ 31 by decide), ck_in (show 62 * j + 4 * i + 3 < 124 by omega) (show (124 : Nat) < 2 ^ 31 by decide), nI_clamp (show i < 2 ^ 31 by omega), nI_clamp (show 62 * j + 4 * i < 2 ^ 31 by omega), nI_clamp (show 62 * j + 4 * i + 1 < 2 ^ 31 by omega), nI_clamp (show 62 * j + 4 * i + 2 < 2 ^ 31 by omega), nI_clamp (show 62 * j + 4 * i + 3 < 2 ^ 31 by omega), up_app, Nat.reduceEqDiff, reduceIte, y1, y2, y3, y4]
      obtain ⟨st1, k1, k2, k3⟩ := ih (i + 1) (up (up (up (up st 71 i (nI (sK S i))) 72 i (nI (sT S i))) 73 i (nI (sL S i))) 74 i (nI (sR S i))) (by omega) (by omega) (by simp only [up_app]; exact hst) (himg.kept (by simp [up_row])) (by
        intro c hc
        simp only [up_app, Nat.reduceEqDiff, reduceIte]
        by_cases hci : c = i
        · subst hci
          simp
        · simp only [if_neg hci]
          exact h3 c (by omega))
      refine ⟨st1, k1, k2, fun k hk => ?_⟩
      rw [k3 k hk]
      simp only [up_row]
      rw [if_neg (by omega), if_neg (by omega), if_neg (by omega), if_neg (by omega)]
theorem res_b {S : Sn} {j : Nat} (hj : j < 2) (K : St → Option (Int32 × St)) : ∀ (q i : Nat) (st : St), i ≤ 7 → 7 - i < q → ImgRep j S st → (∀ c, c < i → st 75 c = sV S c ∧ st 76 c = nI (sH S c) ∧ st 77 c = bi ((sF S).testBit c)) → ∃ st1 : St, lp_X8_restore_130 (nI (62 * j)) K q (nI i) st = K st1 ∧ (∀ c, c < 7 → st1 75 c = sV S c ∧ st1 76 c = nI (sH S c) ∧ st1 77 c = bi ((sF S).testBit c)) ∧ ∀ k, (k < 75 ∨ 77 < k) → st1 k = st k := by
  intro q
  induction q with
  | zero => intro i st h1 h2; omega
  | succ q ih =>
    intro i st h1 h2 himg h3
    change ∃ st1 : St, lpB_X8_restore_130 (nI (62 * j)) K (lp_X8_restore_130 (nI (62 * j)) K q) (nI i) st = _ ∧ _
    unfold lpB_X8_restore_130
    by_cases hi : i = 7
    · subst hi
      rw [if_pos (by decide)]
      exact ⟨st, rfl, h3, fun _ _ => rfl⟩
    · have hin : i < 7 := by omega
      rw [if_neg (by rw [L7]; exact nI_ge hin (by omega))]
      have e0 : nI (62 * j) + (40 : Int32) + nI i = nI (62 * j + 40 + i) := by rw [L40, nI_add, nI_add]
      have e1 : nI (62 * j) + (47 : Int32) + nI i = nI (62 * j + 47 + i) := by rw [L47, nI_add, nI_add]
      have e2 : nI (62 * j) + (54 : Int32) + nI i = nI (62 * j + 54 + i) := by rw [L54, nI_add, nI_add]
      obtain ⟨y1, y2, y3⟩ := himg.2.2 i hin
      simp only [e0, e1, e2, lt_eq, nI_1, ck_in hin (show (7 : Nat) < 2 ^ 31 by decide), ck_in (show 62 * j + 40 + i < 124 by omega) (show (124 : Nat) < 2 ^ 31 by decide), ck_in (show 62 * j + 47 + i < 124 by omega) (show (124 : Nat) < 2 ^ 31 by decide), ck_in (show 62 * j + 54 + i < 124 by omega) (show (124 : Nat) < 2 ^ 31 by decide), nI_clamp (show i < 2 ^ 31 by omega), nI_clamp (show 62 * j + 40 + i < 2 ^ 31 by omega), nI_clamp (show 62 * j + 47 + i < 2 ^ 31 by omega), nI_clamp (show 62 * j + 54 + i < 2 ^ 31 by omega), up_app, Nat.reduceEqDiff, reduceIte, y1, y2, y3, nb0, nb1]
      have key : ∀ v, v = bi ((sF S).testBit i) → ∃ st1 : St, lp_X8_restore_130 (nI (62 * j)) K q (nI (i + 1)) (up (up (up st 75 i (sV S i)) 76 i (nI (sH S i))) 77 i v) = K st1 ∧ (∀ c, c < 7 → st1 75 c = sV S c ∧ st1 76 c = nI (sH S c) ∧ st1 77 c = bi ((sF S).testBit c)) ∧ ∀ k, (k < 75 ∨ 77 < k) → st1 k = st k := by
        intro v hv
        obtain ⟨st1, k1, k2, k3⟩ := ih (i + 1) (up (up (up st 75 i (sV S i)) 76 i (nI (sH S i))) 77 i v) (by omega) (by omega) (himg.kept (by simp [up_row])) (by
          intro c hc
          simp only [up_app, Nat.reduceEqDiff, reduceIte]
          by_cases hci : c = i
          · subst hci
            simp [hv]
          · simp only [if_neg hci]
            exact h3 c (by omega))
        refine ⟨st1, k1, k2, fun k hk => ?_⟩
        rw [k3 k hk]
        simp only [up_row]
        rw [if_neg (by omega), if_neg (by omega), if_neg (by omega)]
      cases hb : (sF S).testBit i with
      | false =>
        rw [if_neg (by decide)]
        exact key 0 (by rw [hb]; rfl)
      | true =>
        rw [if_pos (by rfl)]
        exact key 1 (by rw [hb]; rfl)
theorem ok_restore {st : St} {N : Nat} (hN : 129 ≤ N) (hI : Inv st) (v1 : Int32) : Ok (F_X7_restore N v1) (F_X8_restore N v1) st := by
  have hI0 := hI
  obtain ⟨S, kp, SI, hI⟩ := hI
  have a5 := hI.2.2.2.2.1
  have a6 := hI.2.2.2.2.2.1
  have a7 := hI.2.2.2.2.2.2
  rcases ix v1 2 (by decide) with ⟨j, hj, rfl⟩ | hv1
  · have b1 : ¬ nI j < 0 := nI_pos (by omega)
    have b2 : nI j < 2 := by rw [L2]; exact nI_lt hj (by decide)
    have hin : F_X8_in (nI j) 0 1 = some 1 := in_t (a := 0) (b := 1) (by omega) (by omega) (by decide)
    have ej : (nI j).toNatClampNeg = j := nI_clamp (by omega)
    have hbit : ((st 0 2) >>> (nI j &&& 31)) &&& (1 : Int32) = bi (kp j) := by
      rw [a5, kp_bit _ _ j hj]
      rcases (show j = 0 ∨ j = 1 by omega) with rfl | rfl <;> rfl
    cases hk : kp j with
    | false =>
      refine Ok.same hI0 (-3) ?_ ?_
      · unfold F_X7_restore
        rw [if_neg b1, if_pos b2, hbit, hk, if_pos (by rfl)]
      · unfold F_X8_restore
        rw [hin, bs_s, if_neg e10, ck_in hj (by decide), ej, a6 j hj, hk, if_pos (by rfl)]
    | true =>
      obtain ⟨z1, z2, z3⟩ := a7 j hj hk
      obtain ⟨sA, q1, q2, q3⟩ := copyX (o := 1) (o2 := 8 + 7 * j) rfl (kdIm_all j hj) (by omega) z1.1 z2
      obtain ⟨st1, e1, e2, e3, e4, e5, e6, e7⟩ := changed_of hN hI z1 q2 (by
        intro k hk
        exact q3 k hk)
      have g93 : st1 93 = st 93 := e6 93 (by decide)
      have z3' : ImgRep j (SI j) (up st1 70 0 (nI (sN (SI j)))) := z3.kept (by simp only [up_row, Nat.reduceEqDiff, reduceIte]; exact g93)
      obtain ⟨sB, r1, r2, r3⟩ := res_a (S := SI j) hj z1.1 (fun (s30 : St) => lt (0 : Int32) (fun (v31 : Int32) => lp_X8_restore_130 (nI (62 * j)) (fun (s38 : St) => bs (F_X8_change s38) (fun (s39 : St) => some ((1 : Int32), s39))) N v31 s30)) N 0 (up st1 70 0 (nI (sN (SI j)))) (by omega) (by have := z1.1; omega) (by simp [up_app]) z3' (fun c hc => by omega)
      obtain ⟨sC, t1, t2, t3⟩ := res_b (S := SI j) hj (fun (s38 : St) => bs (F_X8_change s38) (fun (s39 : St) => some ((1 : Int32), s39))) N 0 sB (by omega) (by omega) (z3'.kept (r3 93 (by omega))) (fun c hc => by omega)
      rw [nI0] at r1 t1
      refine ⟨1, st1, up (up sC 78 0 1) 78 1 1, ?_, ?_, SI j, kp, SI, ?_⟩
      · unfold F_X7_restore
        rw [if_neg b1, if_pos b2, hbit, hk, if_neg (by decide), ck_in hj (by decide), ej, q1, bs_s, e1]
        rfl
      · have e61 : nI (62 * j) + (61 : Int32) = nI (62 * j + 61) := by rw [L61, nI_add]
        unfold F_X8_restore
        rw [hin, bs_s, if_neg e10, ck_in hj (by decide), ej, e6 94 (by decide), a6 j hj, hk, if_neg (by decide), lt_eq, show (62 : Int32) * nI j = nI (62 * j) by rw [L62, pk_mul], e61, ck_in (by omega) (by decide), lt_eq, lt_eq, nI_clamp (by omega), g93, z3.1, r1, lt_eq, t1, changeM]
        rfl
      · have g : ∀ k, (k < 70 ∨ 77 < k) → sC k = st1 k := by
          intro k hk
          rw [t3 k (by omega), r3 k (by omega)]
          simp only [up_row]
          rw [if_neg (by omega)]
        refine inv_prog hI z1 e2 e3 e4 e5 e6 ?_ ?_ ?_
        · refine ⟨?_, ?_, ?_, ?_⟩
          · simp only [up_app, Nat.reduceEqDiff, reduceIte]
            rw [t3 70 (by omega), r3 70 (by omega)]
            simp [up_app]
          · intro c hc
            simp only [up_app, Nat.reduceEqDiff, reduceIte]
            rw [t3 71 (by omega), t3 72 (by omega), t3 73 (by omega), t3 74 (by omega)]
            exact r2 c hc
          · intro v hv
            simp only [up_app, Nat.reduceEqDiff, reduceIte]
            exact ⟨(t2 v hv).1, (t2 v hv).2.1⟩
          · intro v hv
            simp only [up_app, Nat.reduceEqDiff, reduceIte]
            exact (t2 v hv).2.2
        · intro m hm
          simp only [up_app]
          rcases (show m = 0 ∨ m = 1 by omega) with rfl | rfl <;> simp
        · intro k hk
          simp only [List.mem_cons, List.not_mem_nil, or_false, not_or] at hk
          simp only [up_row]
          rw [if_neg (by omega), if_neg (by omega)]
          exact g k (by omega)
  · refine Ok.same hI0 (-2) ?_ ?_
    · unfold F_X7_restore
      by_cases a : v1 < 0
      · rw [if_pos a]
      · have b : ¬ v1 < 2 := by
          rcases hv1 with h | h
          · exact absurd h a
          · rw [i32_le, show (nI 2).toInt = 2 from by decide] at h
            rw [i32_lt, show (2 : Int32).toInt = 2 from by decide]
            omega
        rw [if_neg a, if_neg b]
    · unfold F_X8_restore
      rw [show F_X8_in v1 0 1 = some 0 from in_f (b := 1) hv1 (by decide), bs_s]
      rfl
