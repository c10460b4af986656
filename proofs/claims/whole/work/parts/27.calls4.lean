/-- the reference's cache is old, all else is kept -/
theorem Cache.old {S : Sn} {st st' : St} (h : Cache S st) (hk : ∀ k, k ∈ cIds → k ≠ 78 → st' k = st k) (h78 : ∀ m, m < 2 → st' 78 m = 1) : Cache S st' := by
  obtain ⟨h1, h2, h3, h4, h5⟩ := h
  refine ⟨?_, ?_, ?_, ?_, ?_⟩
  · unfold FarOk at *
    rw [hk 27 (by decide) (by decide)]
    exact h1
  · exact h2.kept (hk 34 (by decide) (by decide)) (hk 62 (by decide) (by decide)) (fun p hp => hk _ (by
      simp only [cIds, List.mem_cons, List.not_mem_nil, or_false]
      omega) (by omega))
  · intro mode set a b c
    have e1 : st' (57 + mode.toNat) = st (57 + mode.toNat) := hk _ (by cases mode <;> decide) (by cases mode <;> decide)
    have e2 : st' (60 + mode.toNat) = st (60 + mode.toNat) := hk _ (by cases mode <;> decide) (by cases mode <;> decide)
    rw [e1, e2]
    exact h3 mode set a b c
  · intro r mode a b
    have e1 : st' (38 + 3 * (2 * (r - 1) + mode.toNat)) = st (38 + 3 * (2 * (r - 1) + mode.toNat)) := hk _ (by rcases (show r = 1 ∨ r = 2 ∨ r = 3 by omega) with rfl | rfl | rfl <;> cases mode <;> decide) (by rcases (show r = 1 ∨ r = 2 ∨ r = 3 by omega) with rfl | rfl | rfl <;> cases mode <;> decide)
    have e2 : st' (38 + 3 * (2 * (r - 1) + mode.toNat) + 1) = st (38 + 3 * (2 * (r - 1) + mode.toNat) + 1) := hk _ (by rcases (show r = 1 ∨ r = 2 ∨ r = 3 by omega) with rfl | rfl | rfl <;> cases mode <;> decide) (by rcases (show r = 1 ∨ r = 2 ∨ r = 3 by omega) with rfl | rfl | rfl <;> cases mode <;> decide)
    have e3 : st' (38 + 3 * (2 * (r - 1) + mode.toNat) + 2) = st (38 + 3 * (2 * (r - 1) + mode.toNat) + 2) := hk _ (by rcases (show r = 1 ∨ r = 2 ∨ r = 3 by omega) with rfl | rfl | rfl <;> cases mode <;> decide) (by rcases (show r = 1 ∨ r = 2 ∨ r = 3 by omega) with rfl | rfl | rfl <;> cases mode <;> decide)
    rw [e1, e2, e3]
    exact h4 r mode a b
  · intro mode
    exact Or.inl (h78 _ (by cases mode <;> decide))
-- drop
def dropS (S : Sn) (j : Nat) : Sn := (S.1 - 1, fun i => if i < j then S.2.1 i else S.2.1 (i + 1), S.2.2)
theorem drop_at {S : Sn} {j i : Nat} : sK (dropS S j) i = (if i < j then sK S i else sK S (i + 1)) ∧ sT (dropS S j) i = (if i < j then sT S i else sT S (i + 1)) ∧ sL (dropS S j) i = (if i < j then sL S i else sL S (i + 1)) ∧ sR (dropS S j) i = (if i < j then sR S i else sR S (i + 1)) := by
  unfold dropS sK sT sL sR
  by_cases e : i < j <;> simp [e]
theorem drop_ok {S : Sn} {j : Nat} (hS : SnOk S) (hj : j < sN S) : SnOk (dropS S j) := by
  refine ⟨by show sN S - 1 ≤ 10; have := hS.1; omega, ?_, hS.2.2.1, hS.2.2.2.1, hS.2.2.2.2⟩
  intro i hi
  have hi : i < sN S - 1 := hi
  obtain ⟨a1, a2, a3, a4⟩ := drop_at (S := S) (j := j) (i := i)
  rw [a1, a2, a3, a4]
  by_cases e : i < j
  · simp only [e, if_true]; exact hS.2.1 i (by omega)
  · simp only [e, if_false]; exact hS.2.1 (i + 1) (by omega)
/-- a row without its place j -/
def shf (f : Nat → Int32) (j m : Nat) : Nat → Int32 := fun k => if j ≤ k ∧ k < m then f (k + 1) else f k
theorem cpy_shf {f : Nat → Int32} {j m : Nat} (h : j ≤ m) : va_cpy f f (j + 1) j (m - j) = shf f j m := by
  funext k
  unfold va_cpy shf
  by_cases e : j ≤ k ∧ k < j + (m - j)
  · rw [if_pos e, if_pos (by omega)]
    congr 1
    omega
  · rw [if_neg e, if_neg (by omega)]
theorem remX {st : St} {m j : Nat} (h : st 1 0 = nI (m + 1)) (hj : j ≤ m) (hm : m < 10) : F_X5_remove (nI j) st = some (upr (upr (upr (upr (up st 1 0 (nI m)) 2 (shf (st 2) j m)) 3 (shf (st 3) j m)) 4 (shf (st 4) j m)) 5 (shf (st 5) j m)) := by
  have hd : (0 ≤ nI (j + 1) ∧ 0 ≤ nI j ∧ 0 ≤ nI (m - j) ∧ (nI (j + 1)).toNatClampNeg + (nI (m - j)).toNatClampNeg ≤ 10 ∧ (nI j).toNatClampNeg + (nI (m - j)).toNatClampNeg ≤ 10) := by
    rw [nI_clamp (by omega), nI_clamp (by omega), nI_clamp (by omega)]
    exact ⟨nI_pos' (by omega), nI_pos' (by omega), nI_pos' (by omega), by omega, by omega⟩
  rw [nI_clamp (by omega), nI_clamp (by omega), nI_clamp (by omega)] at hd
  have hck : ∀ (x : Option St), ck (decide (0 ≤ nI (j + 1) ∧ 0 ≤ nI j ∧ 0 ≤ nI (m - j) ∧ j + 1 + (m - j) ≤ 10 ∧ j + (m - j) ≤ 10)) x = x := fun x => ck_d hd x
  unfold F_X5_remove
  simp only [lt_eq, h, nI_pred, up_app, reduceIte, pk_sub hj, nI_1, hck, nI_clamp (show j + 1 < 2 ^ 31 by omega), nI_clamp (show j < 2 ^ 31 by omega), nI_clamp (show m - j < 2 ^ 31 by omega), upr_app, up_row, Nat.reduceEqDiff, cpy_shf hj]
theorem drop_lp {m j : Nat} (hm : m < 10) (K : St → Option (Int32 × St)) (o : Nat → Nat → Int32) : ∀ (q i : Nat) (st : St), j ≤ i → i ≤ m → m - i < q → st 70 0 = nI m → (∀ k, 71 ≤ k → k ≤ 74 → ∀ c, st k c = if j ≤ c ∧ c < i then o k (c + 1) else o k c) → ∃ st1 : St, lp_X8_drop_22 K q (nI i) st = K st1 ∧ (∀ k, 71 ≤ k → k ≤ 74 → st1 k = shf (o k) j m) ∧ ∀ k, (k < 71 ∨ 74 < k) → st1 k = st k := by
  intro q
  induction q with
  | zero => intro i st h1 h2 h3; omega
  | succ q ih =>
    intro i st h1 h2 h3 h4 h5
    change ∃ st1 : St, lpB_X8_drop_22 K (lp_X8_drop_22 K q) (nI i) st = _ ∧ _
    unfold lpB_X8_drop_22
    rw [h4]
    by_cases hi : i = m
    · subst hi
      rw [if_pos (nI_le (Nat.le_refl _) (by omega))]
      exact ⟨st, rfl, fun k a b => by funext c; rw [h5 k a b]; rfl, fun _ _ => rfl⟩
    · have him : i < m := by omega
      rw [if_neg (nI_ge him (by omega))]
      simp only [nI_1, ck_in (show i + 1 < 10 by omega) (show (10 : Nat) < 2 ^ 31 by decide), ck_in (show i < 10 by omega) (show (10 : Nat) < 2 ^ 31 by decide), lt_eq, nI_clamp (show i < 2 ^ 31 by omega), nI_clamp (show i + 1 < 2 ^ 31 by omega), up_app, Nat.reduceEqDiff, reduceIte]
      obtain ⟨st1, g1, g2, g3⟩ := ih (i + 1) (up (up (up (up st 71 i (st 71 (i + 1))) 72 i (st 72 (i + 1))) 73 i (st 73 (i + 1))) 74 i (st 74 (i + 1))) (by omega) (by omega) (by omega) (by simp only [up_app]; exact h4) (by
        intro k a b c
        have hk := h5 k a b
        rcases (show k = 71 ∨ k = 72 ∨ k = 73 ∨ k = 74 by omega) with rfl | rfl | rfl | rfl <;>
        · simp only [up_app, Nat.reduceEqDiff, reduceIte]
          by_cases hc : c = i
          · rw [if_pos hc, if_pos (by omega), hk (i + 1), if_neg (by omega), hc]
          · rw [if_neg hc, hk c]
            by_cases hj : j ≤ c ∧ c < i
            · rw [if_pos hj, if_pos (by omega)]
            · rw [if_neg hj, if_neg (by omega)])
      refine ⟨st1, g1, g2, fun k hk => ?_⟩
      rw [g3 k hk]
      simp only [up_row]
      rw [if_neg (by omega), if_neg (by omega), if_neg (by omega), if_neg (by omega)]
theorem ok_drop {st : St} {N : Nat} (hN : 129 ≤ N) (hI : Inv st) (v1 : Int32) : Ok (F_X7_drop N v1) (F_X8_drop N v1) st := by
  have hI0 := hI
  obtain ⟨S, kp, SI, hI⟩ := hI
  obtain ⟨c1, c2, c3, c4⟩ := id hI.2.1
  obtain ⟨m1, m2, m3, m4⟩ := id hI.2.2.1
  have hn10 := hI.1.1
  rcases stm_c v1 hn10 c1 m1 with ⟨j, hj, rfl, h1, h2⟩ | ⟨h1, h2⟩
  · obtain ⟨m, hm⟩ : ∃ m, sN S = m + 1 := ⟨sN S - 1, by omega⟩
    rw [hm] at c1 m1
    have hS' := drop_ok hI.1 hj
    have hN' : sN (dropS S j) = m := by show sN S - 1 = m; omega
    have hrep : ClsRep 1 (dropS S j) (upr (upr (upr (upr (up st 1 0 (nI m)) 2 (shf (st 2) j m)) 3 (shf (st 3) j m)) 4 (shf (st 4) j m)) 5 (shf (st 5) j m)) := by
      refine ⟨by simp only [up_app, upr_app, Nat.reduceEqDiff, reduceIte]; rw [hN'], ?_, by simp only [up_app, upr_app, Nat.reduceEqDiff, reduceIte]; exact c3, ?_⟩
      · intro i hi
        rw [hN'] at hi
        obtain ⟨a1, a2, a3, a4⟩ := drop_at (S := S) (j := j) (i := i)
        rw [a1, a2, a3, a4]
        simp only [upr_app, Nat.reduceAdd, Nat.reduceEqDiff, reduceIte, shf]
        by_cases e : i < j
        · simp only [e, if_true, if_neg (show ¬ (j ≤ i ∧ i < m) by omega)]
          exact c2 i (by omega)
        · simp only [e, if_false, if_pos (show (j ≤ i ∧ i < m) by omega)]
          exact c2 (i + 1) (by omega)
      · intro v hv
        simp only [up_app, upr_app, up_row, Nat.reduceAdd, Nat.reduceEqDiff, reduceIte]
        exact c4 v hv
    obtain ⟨st1, e1, e2, e3, e4, e5, e6, e7⟩ := changed_of hN hI hS' hrep (by
      intro q hq
      simp only [List.mem_cons, List.not_mem_nil, or_false, not_or] at hq
      simp only [up_row, upr_app]
      simp [hq])
    obtain ⟨st2, g1, g2, g3⟩ := drop_lp (m := m) (j := j) (by omega) (fun (s29 : St) => bs (F_X8_change s29) (fun (s30 : St) => some ((s30 70 0), s30))) st1 N j (up st1 70 0 (nI m)) (Nat.le_refl _) (by omega) (by omega) (by simp [up_app]) (by
      intro k a b c
      rw [if_neg (by omega)]
      simp only [up_app]
      rw [if_neg (by omega)])
    have g70 : st2 70 0 = nI m := by rw [g3 70 (Or.inl (by decide))]; simp [up_app]
    refine ⟨nI m, st1, up (up st2 78 0 1) 78 1 1, ?_, ?_, dropS S j, kp, SI, ?_⟩
    · have r1 : st1 1 0 = nI m := by rw [e7]; simp only [up_app, upr_app, Nat.reduceEqDiff, reduceIte]
      simp only [F_X7_drop, h1, bs_s, if_neg e10, remX c1 (show j ≤ m by omega) (by omega), e1, r1]
    · have q1 : st1 70 0 = nI (m + 1) := by rw [e6 70 (by decide)]; exact m1
      have hs2 : F_X8_isStatement (nI j) st1 = some 1 := by
        unfold F_X8_isStatement
        rw [in_spec, q1, nI_pred, if_neg (nI_pos (by omega)), if_neg (nI_nlt (by omega) (by omega))]
        rfl
      unfold F_X8_drop
      rw [hs2, bs_s, if_neg e10, lt_eq, lt_eq, q1, nI_pred, g1, changeM, bs_s]
      simp only [up_app, Nat.reduceEqDiff, reduceIte, g70]
    · refine inv_prog hI hS' e2 e3 e4 e5 e6 ?_ ?_ ?_
      · refine ⟨by simp only [up_app, Nat.reduceEqDiff, reduceIte]; rw [g70, hN'], ?_, ?_, ?_⟩
        · intro i hi
          rw [hN'] at hi
          obtain ⟨a1, a2, a3, a4⟩ := drop_at (S := S) (j := j) (i := i)
          rw [a1, a2, a3, a4]
          simp only [up_app, Nat.reduceEqDiff, reduceIte]
          rw [g2 71 (by omega) (by omega), g2 72 (by omega) (by omega), g2 73 (by omega) (by omega), g2 74 (by omega) (by omega), e6 71 (by decide), e6 72 (by decide), e6 73 (by decide), e6 74 (by decide)]
          simp only [shf]
          by_cases e : i < j
          · simp only [e, if_true, if_neg (show ¬ (j ≤ i ∧ i < m) by omega)]
            exact m2 i (by omega)
          · simp only [e, if_false, if_pos (show (j ≤ i ∧ i < m) by omega)]
            exact m2 (i + 1) (by omega)
        · intro v hv
          simp only [up_app, Nat.reduceEqDiff, reduceIte]
          rw [g3 75 (Or.inr (by decide)), g3 76 (Or.inr (by decide))]
          simp only [up_row, Nat.reduceEqDiff, reduceIte]
          rw [e6 75 (by decide), e6 76 (by decide)]
          exact m3 v hv
        · intro v hv
          simp only [up_app, Nat.reduceEqDiff, reduceIte]
          rw [g3 77 (Or.inr (by decide))]
          simp only [up_row, Nat.reduceEqDiff, reduceIte]
          rw [e6 77 (by decide)]
          exact m4 v hv
      · intro m hm
        simp only [up_app]
        rcases (show m = 0 ∨ m = 1 by omega) with rfl | rfl <;> simp
      · intro q hq
        simp only [List.mem_cons, List.not_mem_nil, or_false, not_or] at hq
        simp only [up_row]
        rw [if_neg (by omega), if_neg (by omega), g3 q (by omega)]
        simp only [up_row]
        rw [if_neg (by omega)]
  · refine Ok.same hI0 (-1) ?_ ?_
    · simp only [F_X7_drop, h1, bs_s, reduceIte]
    · simp only [F_X8_drop, h2, bs_s, reduceIte]
-- free
def frN (F d on : Nat) : Nat := (F &&& (127 - 2 ^ d)) ||| (on * 2 ^ d)
theorem fr_int : ∀ F, F < 128 → ∀ d, d < 7 → ∀ on, on < 2 → ((nI F) &&& (((1 : Int32) <<< (nI d &&& 31)) ^^^ (-1 : Int32))) ||| (nI on <<< (nI d &&& 31)) = nI (frN F d on) := by decide +kernel
theorem fr_lt : ∀ F, F < 128 → ∀ d, d < 7 → ∀ on, on < 2 → frN F d on < 128 := by decide +kernel
theorem fr_bit : ∀ F, F < 128 → ∀ d, d < 7 → ∀ on, on < 2 → ∀ e, e < 7 → (frN F d on).testBit e = if e = d then decide (on = 1) else F.testBit e := by decide +kernel
theorem or_bit : ∀ F, F < 128 → ∀ e, e < 7 → nI (F % 2 ^ e) ||| (if F.testBit e then nI (2 ^ e) else nI 0) = nI (F % 2 ^ (e + 1)) := by decide +kernel
theorem free_lp {F : Nat} (hF : F < 128) (st : St) (h : ∀ d, d < 7 → st 77 d = bi (F.testBit d)) : ∀ (m e : Nat), e ≤ 7 → 7 - e < m → lp_X8_free_47 st m (nI (F % 2 ^ e)) (nI e) = some (nI F, st) := by
  intro m
  induction m with
  | zero => intro e h1 h2; omega
  | succ m ih =>
    intro e h1 h2
    change lpB_X8_free_47 st (lp_X8_free_47 st m) (nI (F % 2 ^ e)) (nI e) = _
    unfold lpB_X8_free_47
    by_cases he : e = 7
    · subst he
      rw [if_pos (by decide), Nat.mod_eq_of_lt (by omega)]
    · have he7 : e < 7 := by omega
      have ho := or_bit F hF e he7
      rw [if_neg (by rw [L7]; exact nI_ge he7 (by decide)), ck_in he7 (by decide), nI_clamp (by omega), h e he7]
      cases hb : F.testBit e with
      | false =>
        rw [hb] at ho
        rw [if_pos (by rfl), lt_eq, lt_eq, nI_1, L0]
        rw [show nI (F % 2 ^ e) ||| nI 0 = nI (F % 2 ^ (e + 1)) from ho]
        exact ih (e + 1) (by omega) (by omega)
      | true =>
        rw [hb] at ho
        rw [if_neg (by decide), lt_eq, lt_eq, nI_1, shl1 e (by omega)]
        rw [show nI (F % 2 ^ e) ||| nI (2 ^ e) = nI (F % 2 ^ (e + 1)) from ho]
        exact ih (e + 1) (by omega) (by omega)
def freeS (S : Sn) (F : Nat) : Sn := (S.1, S.2.1, F, S.2.2.2)
theorem ok_free {st : St} {N : Nat} (hN : 129 ≤ N) (hI : Inv st) (v1 v2 : Int32) : Ok (F_X7_free N v1 v2) (F_X8_free N v1 v2) st := by
  have hI0 := hI
  obtain ⟨S, kp, SI, hI⟩ := hI
  obtain ⟨c1, c2, c3, c4⟩ := id hI.2.1
  obtain ⟨m1, m2, m3, m4⟩ := id hI.2.2.1
  have hF := hI.1.2.2.1
  have out1 : (v1 < 1 ∨ (6 : Int32) < v1) → Ok (F_X7_free N v1 v2) (F_X8_free N v1 v2) st := by
    intro h
    refine Ok.same hI0 (-2) ?_ ?_
    · by_cases a : v1 < 1
      · simp only [F_X7_free, if_pos a]
      · have b : (6 : Int32) < v1 := by rcases h with h | h; exact absurd h a; exact h
        simp only [F_X7_free, if_neg a, if_pos b]
    · by_cases a : v1 < 1
      · simp only [F_X8_free, in_spec, if_pos a, bs_s, reduceIte]
      · have b : (6 : Int32) < v1 := by rcases h with h | h; exact absurd h a; exact h
        simp only [F_X8_free, in_spec, if_neg a, if_pos b, bs_s, reduceIte]
  by_cases h1 : v1 < 1
  · exact out1 (Or.inl h1)
  · by_cases h2 : (6 : Int32) < v1
    · exact out1 (Or.inr h2)
    · obtain ⟨d, hd1, hd2, rfl⟩ : ∃ d : Nat, 1 ≤ d ∧ d < 7 ∧ v1 = nI d := by
        rcases ix v1 7 (by decide) with ⟨d, hd, rfl⟩ | h
        · refine ⟨d, ?_, hd, rfl⟩
          apply Nat.lt_of_not_le
          intro h
          have : d = 0 := by omega
          subst this
          exact h1 (by decide)
        · exfalso
          rw [i32_lt, show (1 : Int32).toInt = 1 from by decide] at h1
          rw [i32_lt, show (6 : Int32).toInt = 6 from by decide] at h2
          rcases h with h | h
          · rw [i32_lt, show (0 : Int32).toInt = 0 from by decide] at h
            omega
          · rw [i32_le, show (nI 7).toInt = 7 from by decide] at h
            omega
      have hin1 : F_X8_in (nI d) 1 6 = some 1 := in_t (a := 1) (b := 6) hd1 (by omega) (by decide)
      rcases ix v2 2 (by decide) with ⟨on, hon, rfl⟩ | hv2
      · have b1 : ¬ nI on < 0 := nI_pos (by omega)
        have b2 : nI on ≤ 1 := by rw [L1]; exact nI_le (by omega) (by decide)
        have hin2 : F_X8_in (nI on) 0 1 = some 1 := in_t (a := 0) (b := 1) (by omega) (by omega) (by decide)
        have hck : ∀ (x : Option (Int32 × St)), ck (inb (nI d) 7) x = x := fun x => ck_in hd2 (by decide) x
        have ed : (nI d).toNatClampNeg = d := nI_clamp (by omega)
        have hF' := fr_lt (sF S) hF d hd2 on hon
        have hb' := fr_bit (sF S) hF d hd2 on hon
        have c3' : st 1 5 = nI (sF S) := c3
        have hS' : SnOk (freeS S (frN (sF S) d on)) := ⟨hI.1.1, hI.1.2.1, hF', by show (frN (sF S) d on).testBit 0 = false; rw [hb' 0 (by decide), if_neg (by omega)]; exact hI.1.2.2.2.1, hI.1.2.2.2.2⟩
        -- the reference, from any state that has the old free set
        have model : ∀ sx : St, (∀ e, e < 7 → sx 77 e = bi ((sF S).testBit e)) → F_X8_free N (nI d) (nI on) sx = some (nI (frN (sF S) d on), up (up (up sx 77 d (bi (decide (on = 1)))) 78 0 1) 78 1 1) := by
          intro sx hsx
          have key : ∀ b : Bool, b = decide (on = 1) → lp_X8_free_47 (up (up (up sx 77 d (bi b)) 78 0 1) 78 1 1) N 0 1 = some (nI (frN (sF S) d on), up (up (up sx 77 d (bi b)) 78 0 1) 78 1 1) := by
            intro b hb
            have hz : frN (sF S) d on % 2 ^ 1 = 0 := by
              have := hS'.2.2.2.1
              have h3 : (frN (sF S) d on).testBit 0 = false := this
              rw [Nat.testBit_eq_decide_div_mod_eq] at h3
              simp at h3
              omega
            have := free_lp hF' (up (up (up sx 77 d (bi b)) 78 0 1) 78 1 1) (by
              intro e he
              rw [hb' e he]
              simp only [up_app, Nat.reduceEqDiff, reduceIte]
              by_cases hed : e = d
              · rw [if_pos hed, if_pos hed, hb]
              · rw [if_neg hed, if_neg hed]; exact hsx e he) N 1 (by omega) (by omega)
            rw [hz] at this
            exact this
          rcases (show on = 0 ∨ on = 1 by omega) with rfl | rfl
          · have := key false rfl
            simp only [F_X8_free, hin1, hin2, bs_s, if_neg e10, lt_eq, if_neg (show ¬ nI 0 = 1 by decide), hck, ed, nb0, changeM]
            exact this
          · have := key true rfl
            simp only [F_X8_free, hin1, hin2, bs_s, if_neg e10, lt_eq, if_pos (show nI 1 = 1 by decide), hck, ed, nb1, changeM]
            exact this
        by_cases hsame : frN (sF S) d on = sF S
        · refine ⟨nI (frN (sF S) d on), st, _, ?_, model st m4, S, kp, SI, ?_⟩
          · simp only [F_X7_free, if_neg h1, if_neg h2, if_neg b1, if_pos b2, lt_eq, c3', fr_int (sF S) hF d hd2 on hon, if_pos (show nI (frN (sF S) d on) = nI (sF S) by rw [hsame])]
            rw [hsame]
          · have hrow : up st 77 d (bi (decide (on = 1))) = st := by
              have h3 := hb' d hd2
              rw [if_pos rfl, hsame] at h3
              rw [← h3, ← m4 d hd2, up_eq]
              have : upd (st 77) d (st 77 d) = st 77 := by
                funext q
                rw [upd_app]
                split
                · next h => rw [h]
                · rfl
              rw [this, upr_id]
            rw [hrow]
            obtain ⟨a1, a2, a3, a4, a5, a6, a7⟩ := hI
            refine ⟨a1, ?_, ?_, ?_, ?_, ?_, ?_⟩
            · exact a2.kept (by simp [up_row]) (by simp [up_row]) (by simp [up_row]) (by simp [up_row]) (by simp [up_row]) (by simp [up_row]) (by simp [up_row])
            · exact a3.kept (by simp [up_app]) (by simp [up_row]) (by simp [up_row]) (by simp [up_row]) (by simp [up_row]) (by simp [up_row]) (by simp [up_row]) (by simp [up_row])
            · exact Cache.old a4 (by
                intro k hk h78
                simp only [up_row]
                rw [if_neg h78, if_neg h78]) (by
                intro m hm
                simp only [up_app]
                rcases (show m = 0 ∨ m = 1 by omega) with rfl | rfl <;> simp)
            · simp only [up_app]; exact a5
            · intro j hj; simp only [up_app]; exact a6 j hj
            · intro j hj hp
              obtain ⟨b1, b2, b3⟩ := a7 j hj hp
              refine ⟨b1, ?_, b3.kept (by simp [up_row])⟩
              rcases (show j = 0 ∨ j = 1 by omega) with rfl | rfl
              · exact b2.kept (by simp [up_row]) (by simp [up_row]) (by simp [up_row]) (by simp [up_row]) (by simp [up_row]) (by simp [up_row]) (by simp [up_row])
              · exact b2.kept (by simp [up_row]) (by simp [up_row]) (by simp [up_row]) (by simp [up_row]) (by simp [up_row]) (by simp [up_row]) (by simp [up_row])
        · have hne : ¬ nI (frN (sF S) d on) = nI (sF S) := by rw [nI_eq (by omega) (by omega)]; exact hsame
          have hrep : ClsRep 1 (freeS S (frN (sF S) d on)) (up st 1 5 (nI (frN (sF S) d on))) := by
            refine ⟨by simp only [up_app, reduceIte]; exact c1, ?_, by simp only [up_app, reduceIte]; rfl, ?_⟩
            · intro i hi; simp only [up_app]; exact c2 i hi
            · intro v hv; simp only [up_app]; exact c4 v hv
          obtain ⟨st1, e1, e2, e3, e4, e5, e6, e7⟩ := changed_of hN hI hS' hrep (by
            intro q hq
            simp only [List.mem_cons, List.not_mem_nil, or_false, not_or] at hq
            simp only [up_row]
            simp [hq])
          refine ⟨nI (frN (sF S) d on), st1, _, ?_, model st1 (by intro e he; rw [e6 77 (by decide)]; exact m4 e he), freeS S (frN (sF S) d on), kp, SI, ?_⟩
          · have r1 : st1 1 5 = nI (frN (sF S) d on) := by rw [e7]; simp only [up_app, reduceIte]
            simp only [F_X7_free, if_neg h1, if_neg h2, if_neg b1, if_pos b2, lt_eq, c3', fr_int (sF S) hF d hd2 on hon, if_neg hne, e1, bs_s, r1]
          · refine inv_prog hI hS' e2 e3 e4 e5 e6 ?_ ?_ ?_
            · refine ⟨by simp only [up_app]; rw [e6 70 (by decide)]; exact m1, ?_, ?_, ?_⟩
              · intro i hi
                simp only [up_app]
                rw [e6 71 (by decide), e6 72 (by decide), e6 73 (by decide), e6 74 (by decide)]
                exact m2 i hi
              · intro v hv
                simp only [up_app]
                rw [e6 75 (by decide), e6 76 (by decide)]
                exact m3 v hv
              · intro v hv
                show _ = bi ((frN (sF S) d on).testBit v)
                rw [hb' v hv]
                simp only [up_app, Nat.reduceEqDiff, reduceIte]
                by_cases hed : v = d
                · rw [if_pos hed, if_pos hed]
                · rw [if_neg hed, if_neg hed, e6 77 (by decide)]; exact m4 v hv
            · intro m hm
              simp only [up_app]
              rcases (show m = 0 ∨ m = 1 by omega) with rfl | rfl <;> simp
            · intro q hq
              simp only [List.mem_cons, List.not_mem_nil, or_false, not_or] at hq
              simp only [up_row]
              simp [hq]
      · refine Ok.same hI0 (-2) ?_ ?_
        · by_cases a : v2 < 0
          · simp only [F_X7_free, if_neg h1, if_neg h2, if_pos a]
          · have b : ¬ v2 ≤ 1 := by
              rcases hv2 with h | h
              · exact absurd h a
              · rw [i32_le, show (nI 2).toInt = 2 from by decide] at h
                rw [i32_le, show (1 : Int32).toInt = 1 from by decide]
                omega
            simp only [F_X7_free, if_neg h1, if_neg h2, if_neg a, if_neg b]
        · have hin2 : F_X8_in v2 0 1 = some 0 := in_f (b := 1) hv2 (by decide)
          simp only [F_X8_free, hin1, hin2, bs_s, if_neg e10, reduceIte]
