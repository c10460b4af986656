def Ok (f g : St → Option (Int32 × St)) (st : St) : Prop := ∃ r st1 st2, f st = some (r, st1) ∧ g st1 = some (r, st2) ∧ Inv st2
theorem Ok.same {f g : St → Option (Int32 × St)} {st : St} (hI : Inv st) (r : Int32) (h1 : f st = some (r, st)) (h2 : g st = some (r, st)) : Ok f g st := ⟨r, st, st, h1, h2, hI⟩
theorem e10 : ¬ ((1 : Int32) = 0) := by decide
theorem in_t {k a b : Nat} (h1 : a ≤ k) (h2 : k ≤ b) (hb : b < 2 ^ 31) : F_X8_in (nI k) (nI a) (nI b) = some 1 := by
  rw [in_spec, if_neg (nI_nlt h1 (by omega)), if_neg (nI_nlt h2 (by omega))]
theorem in_f {x : Int32} {b : Nat} (h : x < 0 ∨ nI (b + 1) ≤ x) (hb : b + 1 < 2 ^ 31) : F_X8_in x 0 (nI b) = some 0 := by
  rw [in_spec]
  rcases h with h | h
  · rw [if_pos h]
  · have e : nI b < x := by
      rw [i32_le, nI_toInt hb] at h
      rw [i32_lt, nI_toInt (by omega)]
      omega
    by_cases hx : x < 0
    · rw [if_pos hx]
    · rw [if_neg hx, if_pos e]
theorem inv_prog {S S' : Sn} {kp : Nat → Bool} {SI : Nat → Sn} {st st1 st2 : St} (hI : InvS S kp SI st) (hS' : SnOk S') (e2 : ClsRep 1 S' st1) (e3 : ∀ a b, a < 8 → b < 8 → st1 27 (a * 8 + b) = bi (decide (a < 7) && decide (b < 7) && far (sF S') a b)) (e4 : ∀ q, q < 6 → st1 (38 + 3 * q) 0 = 0) (e5 : ∀ (q c : Nat), q < 2 → c < 128 → st1 (57 + q) c = 1 ∧ st1 (60 + q) c = -1) (e6 : ∀ k, k ∉ [1, 2, 3, 4, 5, 6, 7, 27, 38, 41, 44, 47, 50, 53, 57, 58, 60, 61] → st1 k = st k) (hm : ModRep S' st2) (h78 : ∀ m, m < 2 → st2 78 m = 1) (hk : ∀ k, k ∉ [70, 71, 72, 73, 74, 75, 76, 77, 78] → st2 k = st1 k) : InvS S' kp SI st2 := by
  refine inv_done hI hS' ?_ hm ?_ ?_ ?_ h78 ?_
  · exact e2.kept (hk 1 (by decide)) (hk 2 (by decide)) (hk 3 (by decide)) (hk 4 (by decide)) (hk 5 (by decide)) (hk 6 (by decide)) (hk 7 (by decide))
  · intro a b ha hb
    rw [hk 27 (by decide)]
    exact e3 a b ha hb
  · intro q hq
    rw [hk (38 + 3 * q) (by simp only [List.mem_cons, List.not_mem_nil, or_false, not_or]; omega)]
    exact e4 q hq
  · intro q c hq hc
    rw [hk (57 + q) (by simp only [List.mem_cons, List.not_mem_nil, or_false, not_or]; omega), hk (60 + q) (by simp only [List.mem_cons, List.not_mem_nil, or_false, not_or]; omega)]
    exact e5 q c hq hc
  · intro q hq
    obtain ⟨h1, h2⟩ := not_chg hq
    rw [hk q h2, e6 q h1]
theorem ok_put {st : St} {N : Nat} (hN : 129 ≤ N) (hI : Inv st) (v1 v2 v3 v4 : Int32) : Ok (F_X7_put N v1 v2 v3 v4) (F_X8_put v1 v2 v3 v4) st := by
  have hI0 := hI
  obtain ⟨S, kp, SI, hI⟩ := hI
  have hc := hI.2.1.1
  have hm := hI.2.2.1.1
  have hn10 := hI.1.1
  rcases ix v1 5 (by decide) with ⟨k, hk, rfl⟩ | hv1
  · have c1 : ¬ nI k < 0 := nI_pos (by omega)
    have c2 : nI k ≤ 4 := by rw [L4]; exact nI_le (by omega) (by decide)
    have hin : F_X8_in (nI k) 0 4 = some 1 := in_t (a := 0) (b := 4) (by omega) (by omega) (by decide)
    rcases var_c v2 with ⟨t, ht, rfl, t1, t2⟩ | ⟨t1, t2⟩
    · rcases var_c v3 with ⟨l, hl, rfl, l1, l2⟩ | ⟨l1, l2⟩
      · by_cases hk0 : k = 0
        · have z1 : nI k = 0 := by rw [hk0]; rfl
          have z2 : nI k ≤ 0 := by rw [hk0]; decide
          by_cases hn : sN S < 10
          · obtain ⟨stA, st1, st2, a1, a2, a3, a4, a5, a6⟩ := put_do (k := k) (r := l) hN hI hn (by omega) ht hl hl (fun _ => rfl)
            refine ⟨nI (sN S), st1, st2, ?_, ?_, _, kp, SI, a6⟩
            · simp only [F_X7_put, if_neg c1, if_pos c2, t1, l1, bs_s, lt_eq, if_neg e10, hc, if_pos (show nI (sN S) < 10 from nI_lt hn (by decide)), if_pos z1, a1, a2, a3, nI_pred]
            · have hne : ¬ nI (sN S) = 10 := by rw [L10, nI_eq (by omega) (by decide)]; omega
              simp only [F_X8_put, hin, t2, l2, bs_s, lt_eq, if_neg e10, a4, if_neg hne, if_pos z2, up_app, Nat.reduceEqDiff, reduceIte, ck_in hn (show (10 : Nat) < 2 ^ 31 by decide), nI_clamp (show sN S < 2 ^ 31 by omega), changeM, nI_1, a5]
          · have hn : sN S = 10 := by omega
            refine Ok.same hI0 (-4) ?_ ?_
            · simp only [F_X7_put, if_neg c1, if_pos c2, t1, l1, bs_s, lt_eq, if_neg e10, hc, hn, if_neg (show ¬ nI 10 < 10 by decide), if_pos z1]
            · simp only [F_X8_put, hin, t2, l2, bs_s, lt_eq, if_neg e10, hm, hn, if_pos (show nI 10 = 10 by decide), if_pos z2]
        · have z1 : ¬ nI k = 0 := by rw [L0, nI_eq (by omega) (by decide)]; exact hk0
          have z2 : ¬ nI k ≤ 0 := by rw [L0]; exact nI_ge (by omega) (by omega)
          rcases var_c v4 with ⟨r, hr, rfl, r1, r2⟩ | ⟨r1, r2⟩
          · by_cases hn : sN S < 10
            · obtain ⟨stA, st1, st2, a1, a2, a3, a4, a5, a6⟩ := put_do (k := k) (r := r) hN hI hn (by omega) ht hl hr (fun h => absurd h hk0)
              refine ⟨nI (sN S), st1, st2, ?_, ?_, _, kp, SI, a6⟩
              · simp only [F_X7_put, if_neg c1, if_pos c2, t1, l1, r1, bs_s, lt_eq, if_neg e10, hc, if_pos (show nI (sN S) < 10 from nI_lt hn (by decide)), if_neg z1, a1, a2, a3, nI_pred]
              · have hne : ¬ nI (sN S) = 10 := by rw [L10, nI_eq (by omega) (by decide)]; omega
                simp only [F_X8_put, hin, t2, l2, r2, bs_s, lt_eq, if_neg e10, a4, if_neg hne, if_neg z2, up_app, Nat.reduceEqDiff, reduceIte, ck_in hn (show (10 : Nat) < 2 ^ 31 by decide), nI_clamp (show sN S < 2 ^ 31 by omega), changeM, nI_1, a5]
            · have hn : sN S = 10 := by omega
              refine Ok.same hI0 (-4) ?_ ?_
              · simp only [F_X7_put, if_neg c1, if_pos c2, t1, l1, r1, bs_s, lt_eq, if_neg e10, hc, hn, if_neg (show ¬ nI 10 < 10 by decide), if_neg z1]
              · simp only [F_X8_put, hin, t2, l2, r2, bs_s, lt_eq, if_neg e10, hm, hn, if_pos (show nI 10 = 10 by decide), if_neg z2]
          · refine Ok.same hI0 (-1) ?_ ?_
            · simp only [F_X7_put, if_neg c1, if_pos c2, t1, l1, r1, bs_s, lt_eq, if_neg e10, if_neg z1, reduceIte]
            · simp only [F_X8_put, hin, t2, l2, r2, bs_s, lt_eq, if_neg e10, if_neg z2, reduceIte]
      · refine Ok.same hI0 (-1) ?_ ?_
        · simp only [F_X7_put, if_neg c1, if_pos c2, t1, l1, bs_s, if_neg e10, reduceIte]
        · simp only [F_X8_put, hin, t2, l2, bs_s, if_neg e10, reduceIte]
    · refine Ok.same hI0 (-1) ?_ ?_
      · simp only [F_X7_put, if_neg c1, if_pos c2, t1, bs_s, reduceIte]
      · simp only [F_X8_put, hin, t2, bs_s, if_neg e10, reduceIte]
  · refine Ok.same hI0 (-2) ?_ ?_
    · rcases hv1 with h | h
      · simp only [F_X7_put, if_pos h]
      · have h4 : ¬ v1 ≤ 4 := by
          rw [i32_le, show (nI 5).toInt = 5 from by decide] at h
          rw [i32_le, show (4 : Int32).toInt = 4 from by decide]
          omega
        by_cases hx : v1 < 0
        · simp only [F_X7_put, if_pos hx]
        · simp only [F_X7_put, if_neg hx, if_neg h4]
    · have hin : F_X8_in v1 0 4 = some 0 := in_f (b := 4) hv1 (by decide)
      simp only [F_X8_put, hin, bs_s, reduceIte]
-- cross
def crossS (S : Sn) (j : Nat) : Sn := (S.1, fun i => if i = j then ((S.2.1 j).1, (S.2.1 j).2.1, (S.2.1 j).2.2.2, (S.2.1 j).2.2.1) else S.2.1 i, S.2.2)
theorem cross_ok {S : Sn} {j : Nat} (hS : SnOk S) (hj : j < sN S) (hk : sK S j ≠ 0) : SnOk (crossS S j) := by
  refine ⟨hS.1, ?_, hS.2.2.1, hS.2.2.2.1, hS.2.2.2.2⟩
  intro i hi
  have hi : i < sN S := hi
  unfold crossS sK sT sL sR
  by_cases e : i = j
  · simp only [e, if_true]
    obtain ⟨a, b, c, d, -⟩ := hS.2.1 j hj
    exact ⟨a, b, d, c, fun h => absurd h hk⟩
  · simp only [e, if_false]
    exact hS.2.1 i hi
theorem cross_at {S : Sn} {j i : Nat} : sK (crossS S j) i = sK S i ∧ sT (crossS S j) i = sT S i ∧ sL (crossS S j) i = (if i = j then sR S j else sL S i) ∧ sR (crossS S j) i = (if i = j then sL S j else sR S i) := by
  unfold crossS sK sT sL sR
  by_cases e : i = j <;> simp [e]
theorem ok_cross {st : St} {N : Nat} (hN : 129 ≤ N) (hI : Inv st) (v1 : Int32) : Ok (F_X7_cross N v1) (F_X8_cross v1) st := by
  have hI0 := hI
  obtain ⟨S, kp, SI, hI⟩ := hI
  obtain ⟨c1, c2, c3, c4⟩ := id hI.2.1
  obtain ⟨m1, m2, m3, m4⟩ := id hI.2.2.1
  have hn10 := hI.1.1
  rcases stm_c v1 hn10 c1 m1 with ⟨j, hj, rfl, h1, h2⟩ | ⟨h1, h2⟩
  · have hj10 : j < 10 := by omega
    have hcl : (nI j).toNatClampNeg = j := nI_clamp (by omega)
    obtain ⟨k1, k2, k3, k4⟩ := c2 j hj
    obtain ⟨q1, q2, q3, q4⟩ := m2 j hj
    have hck : ∀ (x : Option (Int32 × St)), ck (inb (nI j) 10) x = x := fun x => ck_in hj10 (by decide) x
    simp only [show (1 : Nat) + 1 = 2 from rfl, show (1 : Nat) + 2 = 3 from rfl, show (1 : Nat) + 3 = 4 from rfl, show (1 : Nat) + 4 = 5 from rfl] at k1 k2 k3 k4
    by_cases hk : sK S j = 0
    · have z : nI (sK S j) = 0 := by rw [hk]; rfl
      refine Ok.same hI0 (-5) ?_ ?_
      · simp only [F_X7_cross, h1, bs_s, if_neg e10, hck, hcl, k1, if_pos z]
      · simp only [F_X8_cross, h2, bs_s, if_neg e10, hck, hcl, q1, if_pos z]
    · have z : ¬ nI (sK S j) = 0 := by rw [L0, nI_eq (by have := (hI.1.2.1 j hj).1; omega) (by decide)]; exact hk
      have hS' := cross_ok hI.1 hj hk
      have hrep : ClsRep 1 (crossS S j) (up (up st 4 j (nI (sR S j))) 5 j (nI (sL S j))) := by
        refine ⟨by simp only [up_app]; exact c1, ?_, by simp only [up_app]; exact c3, ?_⟩
        · intro i hi
          obtain ⟨a1, a2, a3, a4⟩ := cross_at (S := S) (j := j) (i := i)
          rw [a1, a2, a3, a4]
          simp only [up_app]
          obtain ⟨b1, b2, b3, b4⟩ := c2 i hi
          by_cases e : i = j
          · simp [e]
            exact ⟨k1, k2⟩
          · simp [e]
            exact ⟨b1, b2, b3, b4⟩
        · intro v hv
          simp only [up_app]
          exact c4 v hv
      obtain ⟨st1, e1, e2, e3, e4, e5, e6, e7⟩ := changed_of hN hI hS' hrep (by
        intro q hq
        simp only [List.mem_cons, List.not_mem_nil, or_false, not_or] at hq
        simp only [up_row]
        simp [hq])
      refine ⟨nI j, st1, up (up (up (up st1 73 j (nI (sR S j))) 74 j (nI (sL S j))) 78 0 1) 78 1 1, ?_, ?_, crossS S j, kp, SI, ?_⟩
      · simp only [F_X7_cross, h1, bs_s, if_neg e10, hck, hcl, k1, if_neg z, lt_eq, k3, k4, e1]
      · have hs2 : F_X8_isStatement (nI j) st1 = some 1 := (stm_t (st := st1) hn10 (by rw [e7]; simp only [up_app]; exact c1) (by rw [e6 70 (by decide)]; exact m1) hj).2
        have r1 : st1 71 j = nI (sK S j) := by rw [e6 71 (by decide)]; exact q1
        have r3 : st1 73 j = nI (sL S j) := by rw [e6 73 (by decide)]; exact q3
        have r4 : st1 74 j = nI (sR S j) := by rw [e6 74 (by decide)]; exact q4
        simp only [F_X8_cross, hs2, bs_s, if_neg e10, hck, hcl, r1, if_neg z, lt_eq, r3, r4, changeM]
      · refine inv_prog hI hS' e2 e3 e4 e5 e6 ?_ ?_ ?_
        · refine ⟨by simp only [up_app]; rw [e6 70 (by decide)]; exact m1, ?_, ?_, ?_⟩
          · intro i hi
            obtain ⟨a1, a2, a3, a4⟩ := cross_at (S := S) (j := j) (i := i)
            rw [a1, a2, a3, a4]
            simp only [up_app]
            obtain ⟨b1, b2, b3, b4⟩ := m2 i hi
            rw [e6 71 (by decide), e6 72 (by decide), e6 73 (by decide), e6 74 (by decide)]
            by_cases e : i = j
            · simp [e]
              exact ⟨q1, q2⟩
            · simp [e]
              exact ⟨b1, b2, b3, b4⟩
          · intro v hv
            simp only [up_app]
            rw [e6 75 (by decide), e6 76 (by decide)]
            exact m3 v hv
          · intro v hv
            simp only [up_app]
            rw [e6 77 (by decide)]
            exact m4 v hv
        · intro m hm
          simp only [up_app]
          rcases (show m = 0 ∨ m = 1 by omega) with rfl | rfl <;> simp
        · intro q hq
          simp only [List.mem_cons, List.not_mem_nil, or_false, not_or] at hq
          simp only [up_row]
          simp [hq]
  · refine Ok.same hI0 (-1) ?_ ?_
    · simp only [F_X7_cross, h1, bs_s, reduceIte]
    · simp only [F_X8_cross, h2, bs_s, reduceIte]
theorem ok_told {st : St} (hI : Inv st) (v1 v2 : Int32) : ∃ r, F_X7_told v1 v2 st = some r ∧ F_X8_told v1 v2 st = some r := by
  obtain ⟨S, kp, SI, hI⟩ := hI
  obtain ⟨c1, c2, c3, c4⟩ := id hI.2.1
  obtain ⟨m1, m2, m3, m4⟩ := id hI.2.2.1
  have hn10 := hI.1.1
  rcases stm_c v1 hn10 c1 m1 with ⟨j, hj, rfl, h1, h2⟩ | ⟨h1, h2⟩
  · have hj10 : j < 10 := by omega
    have hcl : (nI j).toNatClampNeg = j := nI_clamp (by omega)
    obtain ⟨k1, k2, k3, k4⟩ := c2 j hj
    obtain ⟨q1, q2, q3, q4⟩ := m2 j hj
    have hck : ∀ (x : Option Int32), ck (inb (nI j) 10) x = x := fun x => ck_in hj10 (by decide) x
    simp only [show (1 : Nat) + 1 = 2 from rfl, show (1 : Nat) + 2 = 3 from rfl, show (1 : Nat) + 3 = 4 from rfl, show (1 : Nat) + 4 = 5 from rfl] at k1 k2 k3 k4
    unfold F_X7_told F_X8_told
    simp only [h1, h2, bs_s, if_neg e10, hck, hcl, k1, k2, k3, k4, q1, q2, q3, q4]
    generalize nI (sK S j) = a1
    generalize nI (sT S j) = a2
    generalize nI (sL S j) = a3
    generalize nI (sR S j) = a4
    by_cases b0 : v2 = 0
    · simp only [b0, reduceIte]; exact ⟨_, rfl, rfl⟩
    · by_cases b1 : v2 = 1
      · simp only [if_neg b0, if_pos b1]; exact ⟨_, rfl, rfl⟩
      · by_cases b2 : v2 = 2
        · simp only [if_neg b0, if_neg b1, if_pos b2]; exact ⟨_, rfl, rfl⟩
        · by_cases b3 : v2 = 3
          · by_cases b4 : a1 = 0
            · simp only [if_neg b0, if_neg b1, if_neg b2, if_pos b3, if_pos b4]; exact ⟨_, rfl, rfl⟩
            · simp only [if_neg b0, if_neg b1, if_neg b2, if_pos b3, if_neg b4]; exact ⟨_, rfl, rfl⟩
          · simp only [if_neg b0, if_neg b1, if_neg b2, if_neg b3]; exact ⟨_, rfl, rfl⟩
  · unfold F_X7_told F_X8_told
    simp only [h1, h2, bs_s]
    exact ⟨_, rfl, rfl⟩
theorem ok_value {st : St} (hI : Inv st) (v1 : Int32) : ∃ r, F_X7_value v1 st = some r ∧ F_X8_value v1 st = some r := by
  obtain ⟨S, kp, SI, hI⟩ := hI
  obtain ⟨c1, c2, c3, c4⟩ := id hI.2.1
  obtain ⟨m1, m2, m3, m4⟩ := id hI.2.2.1
  unfold F_X7_value F_X8_value
  rcases var_c v1 with ⟨t, ht, rfl, t1, t2⟩ | ⟨t1, t2⟩
  · have hck : ∀ (x : Option Int64), ck (inb (nI t) 7) x = x := fun x => ck_in ht (by decide) x
    have e1 : st 6 t = sV S t := (c4 t ht).1
    simp only [t1, t2, bs_s, if_neg e10, hck, nI_clamp (show t < 2 ^ 31 by omega), e1, (m3 t ht).1]
    exact ⟨_, rfl, rfl⟩
  · simp only [t1, t2, bs_s]
    exact ⟨_, rfl, rfl⟩
