theorem PC.of {S : Sn} {mode : Bool} {st st' : St} (h : PC S mode st) (hk : ∀ k, k ≠ 32 → k ≠ 64 → st' k = st k) (h12 : st' 32 12 = st 32 12) (h13 : st' 32 13 = st 32 13) : PC S mode st' := by
  have hmm : mode.toNat < 2 := by cases mode <;> decide
  obtain ⟨a1, a2, a3, a4, a5, a6⟩ := h
  refine ⟨a1.kept (hk _ (by decide) (by decide)) (hk _ (by decide) (by decide)) (hk _ (by decide) (by decide)) (hk _ (by decide) (by decide)) (hk _ (by decide) (by decide)) (hk _ (by decide) (by decide)) (hk _ (by decide) (by decide)), ?_, ?_, ?_, ?_, ?_⟩
  · intro p q hp hq
    rw [hk 27 (by decide) (by decide)]; exact a2 p q hp hq
  · rw [hk 34 (by decide) (by decide)]; exact a3
  · rw [h12]; exact a4
  · rw [h13]; exact a5
  · unfold FloM
    rw [hk (57 + mode.toNat) (by omega) (by omega), hk (60 + mode.toNat) (by omega) (by omega)]
    exact a6
theorem blk_nil (us : List Nat) (g : Nat) : blk us [] g = 0 := by
  unfold blk
  simp
theorem RG_nil (used : Nat) : RG used [] 0 := by
  intro g
  rw [blk_nil]
  omega
/-- both searches -/
theorem searchX {S : Sn} {mode : Bool} {r N : Nat} {st : St} (hN : 129 ≤ N) (hS : SnOk S) (hr1 : 1 ≤ r) (hr3 : r ≤ 3) (hP : PC S mode st) (h9 : st 32 9 = nI (mems (usedS S)).length) (h11 : st 32 11 = nI r) (h14 : st 32 14 = 1000) (h64 : ∀ j, j < (mems (usedS S)).length → st 64 j = nI ((mems (usedS S)).getD j 0)) (h62 : ∀ g, g < 3 → st 62 g = 0) : ∃ st' : St, (bs (F_X3_divide N 9 (0 : Int32) (0 : Int32) (up st 32 10 (nI (((mems (usedS S)).length + r - 1) / r)))) (fun (s30 : St) => lt (up s30 32 14 ((s30 32 14) + (1 : Int32))) (fun (s31 : St) => lt (up s31 32 10 (s31 32 9)) (fun (s32 : St) => F_X3_divide N 9 (0 : Int32) (0 : Int32) s32)))) = some st' ∧ PC S mode st' ∧ DP S mode ((planA S r mode).1, some (planA S r mode).2) st' ∧ (∀ k, k ∉ cfL mode → st' k = st k) ∧ (∀ v, v < 8 → st' 34 v = 7) ∧ (∀ g, g < 3 → st' 62 g = 0) := by
  have hn := mems_len (usedS S)
  have hw1 : ((mems (usedS S)).length + r - 1) / r ≤ 8 := by
    rcases (show r = 1 ∨ r = 2 ∨ r = 3 by omega) with rfl | rfl | rfl <;> omega
  generalize hw : ((mems (usedS S)).length + r - 1) / r = w1 at *
  generalize hs1 : up st 32 10 (nI w1) = s1
  have k1 : ∀ k, k ≠ 32 → s1 k = st k := fun k hk => by rw [← hs1, up_row, if_neg hk]
  have f1 : ∀ j, j ≠ 10 → s1 32 j = st 32 j := fun j hj => by rw [← hs1, up_row, if_pos rfl, upd_app, if_neg hj]
  have P1 : PC S mode s1 := hP.of (fun k a _ => k1 k a) (f1 12 (by decide)) (f1 13 (by decide))
  obtain ⟨s2, a1, a2, a3, a4⟩ := divX (mode := mode) (w := w1) hN hS hr1 hr3 hw1 (mems (usedS S)).length 9 (by omega) [] 0 (1000, none) s1 (by simp) (by omega) (RG_nil _) (by simp) P1 ⟨by rw [f1 9 (by decide)]; exact h9, by rw [← hs1, up_row, if_pos rfl, upd_app, if_pos rfl], by rw [f1 11 (by decide)]; exact h11, by rw [k1 64 (by decide)]; exact h64⟩ ⟨by rw [f1 14 (by decide), h14]; rfl, fun asg h => by cases h⟩ (by
    intro g hg
    rw [k1 62 (by decide), h62 g hg, blk_nil]
    rfl)
  generalize hA1 : (dvs (mems (usedS S)) w1 r (mems (usedS S)).length [] 0).foldl (fB (costAsg S mode)) (1000, none) = A1 at a4
  have hA1le : A1.1 ≤ 1000 := by
    have := (fB_le (val := costAsg S mode) (dvs (mems (usedS S)) w1 r (mems (usedS S)).length [] 0) (1000, none)).1
    rw [hA1] at this
    exact this
  have e9 : s2 32 9 = nI (mems (usedS S)).length := by rw [a3.2.1 9 (by decide) (by decide), f1 9 (by decide)]; exact h9
  generalize hs3 : up (up s2 32 14 (nI (A1.1 + 1))) 32 10 (nI (mems (usedS S)).length) = s3
  have k3 : ∀ k, k ≠ 32 → s3 k = s2 k := fun k hk => by rw [← hs3, up_row, if_neg hk, up_row, if_neg hk]
  have f3 : ∀ j, s3 32 j = if j = 10 then nI (mems (usedS S)).length else if j = 14 then nI (A1.1 + 1) else s2 32 j := fun j => by rw [← hs3, up_row, if_pos rfl, upd_app, up_row, if_pos rfl, upd_app]
  have P3 : PC S mode s3 := a2.of (fun k a _ => k3 k a) (by rw [f3, if_neg (by decide), if_neg (by decide)]) (by rw [f3, if_neg (by decide), if_neg (by decide)])
  have hD3 : DP S mode (A1.1 + 1, A1.2) s3 := by
    refine ⟨by rw [f3, if_neg (by decide), if_pos rfl], fun asg hasg => ?_⟩
    obtain ⟨q1, fl, q2, q3, q4, q5, q6⟩ := a4.2 asg hasg
    refine ⟨q1, fl, by rw [f3, if_neg (by decide), if_neg (by decide)]; exact q2, q3, q4, by rw [k3 63 (by decide)]; exact q5, fun g hg => by rw [k3 _ (by cases mode <;> decide)]; exact q6 g hg⟩
  have s62 : ∀ g, g < 3 → s2 62 g = 0 := by
    intro g hg
    rw [a3.2.2.1 g hg, k1 62 (by decide)]
    exact h62 g hg
  obtain ⟨s4, b1, b2, b3, b4⟩ := divX (mode := mode) (w := (mems (usedS S)).length) hN hS hr1 hr3 (by omega) (mems (usedS S)).length 9 (by omega) [] 0 (A1.1 + 1, A1.2) s3 (by simp) (by omega) (RG_nil _) (by simp only; omega) P3 ⟨by rw [f3, if_neg (by decide), if_neg (by decide)]; exact e9, by rw [f3, if_pos rfl], by rw [f3, if_neg (by decide), if_neg (by decide), a3.2.1 11 (by decide) (by decide), f1 11 (by decide)]; exact h11, by rw [k3 64 (by decide), a3.1 64 (by cases mode <;> decide), k1 64 (by decide)]; exact h64⟩ hD3 (by
    intro g hg
    rw [k3 62 (by decide), s62 g hg, blk_nil]
    rfl)
  rw [two_pass (mode := mode) (w1 := w1) hS hr1 hr3 (Nat.le_refl _) A1.2 A1.1 (by rw [hA1])] at b4
  refine ⟨s4, ?_, b2, b4, ?_, b2.2.2.1, ?_⟩
  · have a1' : F_X3_divide N 9 0 0 s1 = some s2 := a1
    have b1' : F_X3_divide N 9 0 0 s3 = some s4 := b1
    rw [a1', bs_s, lt_eq, lt_eq, a4.1, nI_1]
    rw [show (up s2 32 14 (nI (A1.1 + 1))) 32 9 = nI (mems (usedS S)).length by rw [up_row, if_pos rfl, upd_app, if_neg (by decide)]; exact e9, hs3]
    exact b1'
  · intro k hk
    have h32 : k ≠ 32 := by
      rintro rfl
      exact hk (by unfold cfL; simp)
    rw [b3.1 k hk, k3 k h32, a3.1 k hk, k1 k h32]
  · intro g hg
    rw [b3.2.2.1 g hg, k3 62 (by decide)]
    exact s62 g hg
def plI (r : Nat) (mode : Bool) : Nat := 38 + 3 * (2 * (r - 1) + mode.toNat)
theorem planForC {S : Sn} {st : St} {N r : Nat} {mode : Bool} (hN : 129 ≤ N) (hS : SnOk S) (hCl : ClsRep 1 S st) (hCa : Cache S st) (hr1 : 1 ≤ r) (hr3 : r ≤ 3) : ∃ st' : St, F_X3_planFor N (nI r) (bi mode) st = some (plI r mode, st') ∧ (st' 70 = st 70 ∧ KF st st') ∧ Cache S st' ∧ PlanX S r mode (plI r mode) st' := by
  have hmm : mode.toNat < 2 := by cases mode <;> decide
  have hp : 2 * (r - 1) + mode.toNat < 6 := by omega
  have hix : (nI r - 1) * 2 + bi mode = nI (2 * (r - 1) + mode.toNat) := by
    rw [show nI r - 1 = nI (r - 1) from pk_sub (a := r) (b := 1) hr1, L2, pk_mul, bi_t, nI_add, Nat.mul_comm]
  unfold plI
  generalize hpp : 2 * (r - 1) + mode.toNat = p at *
  obtain ⟨c1, c2, c3, c4, c5⟩ := id hCa
  unfold F_X3_planFor
  rw [hix, ck_in hp (by decide), nI_clamp (by omega)]
  have hpl := c4 r mode hr1 hr3
  rw [hpp] at hpl
  by_cases h0 : st (38 + 3 * p) 0 = 0
  · rw [if_pos h0]
    simp only [lt_eq]
    -- before the searches
    generalize hs3 : up (up st 32 11 (nI r)) 32 12 (bi mode) = s3
    have k3 : ∀ k, k ≠ 32 → s3 k = st k := fun k hk => by rw [← hs3, up_row, if_neg hk, up_row, if_neg hk]
    have e12 : s3 32 12 = bi mode := by rw [← hs3, up_row, if_pos rfl, upd_app, if_pos rfl]
    have e11 : s3 32 11 = nI r := by rw [← hs3, up_row, if_pos rfl, upd_app, if_neg (by decide), up_row, if_pos rfl, upd_app, if_pos rfl]
    have hc3 : ClsRep 1 S s3 := hCl.kept (k3 _ (by decide)) (k3 _ (by decide)) (k3 _ (by decide)) (k3 _ (by decide)) (k3 _ (by decide)) (k3 _ (by decide)) (k3 _ (by decide))
    have key : ∃ st' : St, (bs (F_X3_listUsed N (up (up s3 32 13 (nI (mayB S mode))) 32 14 (1000 : Int32))) (fun (s28 : St) => ck (decide ((s28 32 11) ≠ 0)) (bs (F_X3_divide N 9 (0 : Int32) (0 : Int32) (up s28 32 10 ((((s28 32 9) + (s28 32 11)) - (1 : Int32)) / (s28 32 11)))) (fun (s30 : St) => bs (F_X3_divide N 9 (0 : Int32) (0 : Int32) (up (up s30 32 14 ((s30 32 14) + (1 : Int32))) 32 10 ((up s30 32 14 ((s30 32 14) + (1 : Int32))) 32 9))) (fun (s33 : St) => bs (F_X3_write N (38 + 3 * p) s33) (fun (s34 : St) => some ((38 + 3 * p), up s34 (38 + 3 * p) 0 (1 : Int32)))))))) = some (38 + 3 * p, st') ∧ (st' 70 = st 70 ∧ KF st st') ∧ Cache S st' ∧ PlanX S r mode (38 + 3 * p) st' := by
      generalize hs4 : up (up s3 32 13 (nI (mayB S mode))) 32 14 (1000 : Int32) = s4
      have k4 : ∀ k, k ≠ 32 → s4 k = st k := fun k hk => by rw [← hs4, up_row, if_neg hk, up_row, if_neg hk, k3 k hk]
      have f4 : ∀ j, s4 32 j = if j = 14 then 1000 else if j = 13 then nI (mayB S mode) else s3 32 j := fun j => by rw [← hs4, up_row, if_pos rfl, upd_app, up_row, if_pos rfl, upd_app]
      have hc4 : ClsRep 1 S s4 := hCl.kept (k4 _ (by decide)) (k4 _ (by decide)) (k4 _ (by decide)) (k4 _ (by decide)) (k4 _ (by decide)) (k4 _ (by decide)) (k4 _ (by decide))
      obtain ⟨g, a1, a2⟩ := luX (N := N) hN hS hc4
      generalize hs5 : up (upr s4 64 g) 32 9 (nI (mems (usedS S)).length) = s5 at a1
      have k5 : ∀ k, k ≠ 32 → k ≠ 64 → s5 k = st k := fun k h1 h2 => by rw [← hs5, up_row, if_neg h1, upr_app, if_neg h2, k4 k h1]
      have f5 : ∀ j, s5 32 j = if j = 9 then nI (mems (usedS S)).length else s4 32 j := fun j => by rw [← hs5, up_row, if_pos rfl, upd_app, show (upr s4 64 g) 32 = s4 32 by rw [upr_app, if_neg (by decide)]]
      have P5 : PC S mode s5 := by
        refine ⟨hCl.kept (k5 _ (by decide) (by decide)) (k5 _ (by decide) (by decide)) (k5 _ (by decide) (by decide)) (k5 _ (by decide) (by decide)) (k5 _ (by decide) (by decide)) (k5 _ (by decide) (by decide)) (k5 _ (by decide) (by decide)), ?_, ?_, ?_, ?_, ?_⟩
        · intro x y hx hy
          rw [k5 27 (by decide) (by decide)]
          exact FarOk.r c1 x y hx hy
        · rw [k5 34 (by decide) (by decide)]; exact c2.1
        · rw [f5, if_neg (by decide), f4, if_neg (by decide), if_neg (by decide)]; exact e12
        · rw [f5, if_neg (by decide), f4, if_neg (by decide), if_pos rfl]
        · intro set s0 s1 s2
          rw [k5 (57 + mode.toNat) (by omega) (by omega), k5 (60 + mode.toNat) (by omega) (by omega)]
          have := c3 mode set s0 s1 s2
          rw [opt_pg] at this
          exact this
      have g9 : s5 32 9 = nI (mems (usedS S)).length := by rw [f5, if_pos rfl]
      have g11 : s5 32 11 = nI r := by rw [f5, if_neg (by decide), f4, if_neg (by decide), if_neg (by decide)]; exact e11
      obtain ⟨s6, b1, b2, b3, b4, b5, b6⟩ := searchX (mode := mode) (N := N) hN hS hr1 hr3 P5 g9 g11 (by rw [f5, if_neg (by decide), f4, if_pos rfl]) (by
        rw [← hs5, up_row, if_neg (by decide), upr_app, if_pos rfl]
        exact a2) (by rw [k5 62 (by decide) (by decide)]; exact c2.2.1)
      have hk6 : ∀ k, k ∉ cfL mode → k ≠ 32 → k ≠ 64 → s6 k = st k := fun k h1 h2 h3 => by rw [b4 k h1, k5 k h2 h3]
      have hncf : ∀ k, 37 ≤ k → k ≤ 56 → k ∉ cfL mode := by
        intro k h1 h2
        unfold cfL
        simp only [List.mem_cons, List.not_mem_nil, or_false, not_or]
        omega
      obtain ⟨s7, d1, d2, d3, d4⟩ := writeX (mode := mode) (N := N) hN hS hr1 hr3 hp b2 b3 (by
        intro v hv
        rw [hk6 _ (hncf _ (by omega) (by omega)) (by omega) (by omega)]
        have := c2.2.2 p v hp hv
        rw [show 40 + 3 * p = 38 + 3 * p + 2 by omega] at this
        exact this)
      refine ⟨up s7 (38 + 3 * p) 0 1, ?_, and_assoc.mp ⟨?_, ?_⟩⟩
      · rw [a1, bs_s, ck_d (by rw [g11]; exact nI_ne0 (by omega) (by omega)), g9, g11]
        have hn := mems_len (usedS S)
        have ew : (nI (mems (usedS S)).length + nI r - 1) / nI r = nI (((mems (usedS S)).length + r - 1) / r) := by
          rw [nI_add, show nI ((mems (usedS S)).length + r) - 1 = nI ((mems (usedS S)).length + r - 1) from pk_sub (a := (mems (usedS S)).length + r) (b := 1) (by omega), pk_div (by omega) (by omega) (by omega)]
        rw [ew]
        cases hd : F_X3_divide N 9 (0 : Int32) (0 : Int32) (up s5 32 10 (nI (((mems (usedS S)).length + r - 1) / r))) with
        | none =>
          rw [hd] at b1
          cases b1
        | some s6a =>
          rw [hd, bs_s, lt_eq, lt_eq] at b1
          rw [bs_s, b1, bs_s, d1]
          rfl
      · -- what is kept
        have h7 : ∀ k, k ∉ cfL mode → k ∉ [25, 26, 28, 29, 30, 31, 38 + 3 * p, 38 + 3 * p + 1, 38 + 3 * p + 2] → k ≠ 32 → k ≠ 64 → (up s7 (38 + 3 * p) 0 1) k = st k := by
          intro k h1 h2 h3 h4
          have h5 : k ≠ 38 + 3 * p := by
            simp only [List.mem_cons, List.not_mem_nil, or_false, not_or] at h2
            omega
          rw [up_row, if_neg h5, d4 k h2, hk6 k h1 h3 h4]
        have hk : ∀ k, k ∈ kIds ∨ k = 27 ∨ k = 70 ∨ k = 78 ∨ k = 82 ∨ k = 83 → (up s7 (38 + 3 * p) 0 1) k = st k := by
          intro k hk
          have hb : (k < 25 ∨ 64 < k ∨ k = 27) := by
            rcases hk with hk | hk
            · unfold kIds at hk
              simp only [List.mem_cons, List.not_mem_nil, or_false] at hk
              omega
            · omega
          refine h7 k ?_ ?_ (by omega) (by omega)
          · unfold cfL
            simp only [List.mem_cons, List.not_mem_nil, or_false, not_or]
            omega
          · simp only [List.mem_cons, List.not_mem_nil, or_false, not_or]
            omega
        refine ⟨⟨hk 70 (by simp), by rw [hk 70 (by simp)], fun k h => hk k (Or.inl h)⟩, ?_⟩
        have e57 : ∀ q, q < 7 → 57 ≤ 57 + q → (up s7 (38 + 3 * p) 0 1) (57 + q) = s6 (57 + q) := by
          intro q hq _
          rw [up_row, if_neg (by omega), d4 _ (by simp only [List.mem_cons, List.not_mem_nil, or_false, not_or]; omega)]
        have e34 : (up s7 (38 + 3 * p) 0 1) 34 = s6 34 := by rw [up_row, if_neg (by omega), d4 _ (by simp only [List.mem_cons, List.not_mem_nil, or_false, not_or]; omega)]
        refine ⟨?_, ⟨?_, ?_, ?_⟩, ?_, ?_, ?_⟩
        · unfold FarOk at *
          rw [hk 27 (by simp)]
          exact c1
        · rw [e34]; exact b5
        · rw [show (62 : Nat) = 57 + 5 from rfl, e57 5 (by omega) (by omega)]; exact b6
        · intro q v hq hv
          by_cases e : q = p
          · subst e
            rw [up_row, if_neg (by omega), show 40 + 3 * q = 38 + 3 * q + 2 by omega]
            exact d3 v hv
          · rw [h7 (40 + 3 * q) (hncf _ (by omega) (by omega)) (by simp only [List.mem_cons, List.not_mem_nil, or_false, not_or]; omega) (by omega) (by omega)]
            exact c2.2.2 q v hq hv
        · intro mo set s0 s1 s2
          have hmo : mo.toNat < 2 := by cases mo <;> decide
          by_cases e : mo = mode
          · subst e
            rw [e57 mo.toNat (by omega) (by omega), show 60 + mo.toNat = 57 + (3 + mo.toNat) by omega, e57 (3 + mo.toNat) (by omega) (by omega), ← show 60 + mo.toNat = 57 + (3 + mo.toNat) by omega, opt_pg]
            exact b2.2.2.2.2.2 set s0 s1 s2
          · have ht : mo.toNat ≠ mode.toNat := by cases mo <;> cases mode <;> simp_all
            rw [h7 (57 + mo.toNat) (by unfold cfL; simp only [List.mem_cons, List.not_mem_nil, or_false, not_or]; omega) (by simp only [List.mem_cons, List.not_mem_nil, or_false, not_or]; omega) (by omega) (by omega), h7 (60 + mo.toNat) (by unfold cfL; simp only [List.mem_cons, List.not_mem_nil, or_false, not_or]; omega) (by simp only [List.mem_cons, List.not_mem_nil, or_false, not_or]; omega) (by omega) (by omega)]
            exact c3 mo set s0 s1 s2
        · intro r' mo hr1' hr3'
          have hmo : mo.toNat < 2 := by cases mo <;> decide
          by_cases e : 2 * (r' - 1) + mo.toNat = p
          · have hrr : r' = r := by omega
            have hmm2 : mo = mode := by
              have : mo.toNat = mode.toNat := by omega
              cases mo <;> cases mode <;> simp_all
            subst hrr
            subst hmm2
            rw [e]
            refine Or.inr ⟨by rw [up_row, if_pos rfl, upd_app, if_pos rfl], ?_, ?_, ?_, ?_⟩
            · rw [up_row, if_pos rfl, upd_app, if_neg (by decide), planA_pg]; exact d2.1
            · rw [up_row, if_pos rfl, upd_app, if_neg (by decide), filled_pg]; exact d2.2.1
            · rw [up_row, if_pos rfl, upd_app, if_neg (by decide), turnP_pg]; exact d2.2.2.1
            · intro v hv hb
              rw [up_row, if_neg (by omega), up_row, if_neg (by omega), regOf_pg, cellP_pg]
              exact d2.2.2.2 v hv hb
          · generalize hq : 2 * (r' - 1) + mo.toNat = q at e
            have hq6 : q < 6 := by omega
            have hst : ∀ i, i < 3 → (up s7 (38 + 3 * p) 0 1) (38 + 3 * q + i) = st (38 + 3 * q + i) := fun i hi => h7 _ (hncf _ (by omega) (by omega)) (by simp only [List.mem_cons, List.not_mem_nil, or_false, not_or]; omega) (by omega) (by omega)
            have := c4 r' mo hr1' hr3'
            rw [hq] at this
            rw [show (up s7 (38 + 3 * p) 0 1) (38 + 3 * q) = st (38 + 3 * q) from hst 0 (by omega), hst 1 (by omega), hst 2 (by omega)]
            exact this
        · unfold ModOk at *
          rw [hk 78 (by simp), hk 82 (by simp), hk 83 (by simp)]
          exact c5
      · refine ⟨?_, ?_, ?_, ?_⟩
        · rw [up_row, if_pos rfl, upd_app, if_neg (by decide)]; exact d2.1
        · rw [up_row, if_pos rfl, upd_app, if_neg (by decide)]; exact d2.2.1
        · rw [up_row, if_pos rfl, upd_app, if_neg (by decide)]; exact d2.2.2.1
        · intro v hv hb
          rw [up_row, if_neg (by omega), up_row, if_neg (by omega)]
          exact d2.2.2.2 v hv hb
    rw [e12]
    cases hmo : mode with
    | false =>
      rw [if_pos (by rfl)]
      rw [hmo] at key
      exact key
    | true =>
      rw [if_neg (by decide), turnX (by omega) hS hc3, bs_s]
      rw [hmo] at key
      exact key
  · rw [if_neg h0]
    refine ⟨st, rfl, ⟨rfl, rfl, fun _ _ => rfl⟩, hCa, ?_⟩
    rcases hpl with h | ⟨-, h1, h2, h3, h4⟩
    · exact absurd h h0
    · rw [planA_pg] at h1
      rw [filled_pg] at h2
      rw [turnP_pg] at h3
      refine ⟨h1, h2, h3, fun v hv hb => ?_⟩
      have := h4 v hv hb
      rw [regOf_pg, cellP_pg] at this
      exact this
theorem planForX {S : Sn} {kp : Nat → Bool} {SI : Nat → Sn} {st : St} {N r : Nat} {mode : Bool} (hN : 129 ≤ N) (hI : InvS S kp SI st) (hr1 : 1 ≤ r) (hr3 : r ≤ 3) : ∃ st' : St, F_X3_planFor N (nI r) (bi mode) st = some (plI r mode, st') ∧ InvS S kp SI st' ∧ PlanX S r mode (plI r mode) st' := by
  obtain ⟨st', h1, h2, h3, h4⟩ := planForC (mode := mode) hN hI.1 hI.2.1 hI.2.2.2.1 hr1 hr3
  exact ⟨st', h1, hI.kf h2.2 h3, h4⟩
