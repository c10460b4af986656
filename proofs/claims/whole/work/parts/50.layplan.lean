def facc (S : Sn) (mode : Bool) (r k x : Nat) : Option (Nat × List Nat) := ((List.range x).map (dg r k)).foldl (fm (costAsg S mode)) none
theorem facc_s {S : Sn} {mode : Bool} {r k x : Nat} : facc S mode r k (x + 1) = fm (costAsg S mode) (facc S mode r k x) (dg r k x) := by
  unfold facc
  rw [List.range_succ, List.map_append, List.foldl_append]
  rfl
def facR (S : Sn) (mode : Bool) (r k x b : Nat) (st : St) : Prop := match facc S mode r k x with
  | none => st 70 19 = -6 ∧ x = 0
  | some q => st 70 19 = nI q.1 ∧ q.1 ≤ 90 ∧ q.2 = dg r k b ∧ b < r ^ k
theorem costAsg_le {S : Sn} (hS : SnOk S) (mode : Bool) (asg : List Nat) : costAsg S mode asg ≤ 90 := by
  have h0 := opt_le hS (blk (mems (usedS S)) asg 0) mode
  have h1 := opt_le hS (blk (mems (usedS S)) asg 1) mode
  have h2 := opt_le hS (blk (mems (usedS S)) asg 2) mode
  unfold costAsg
  omega
theorem pow_lt {r k : Nat} (hr : r ≤ 3) (hk : k < 8) : r ^ k ≤ 2187 := Nat.le_trans (Nat.pow_le_pow_left hr k) (Nat.pow_le_pow_right (n := 3) (by decide) (show k ≤ 7 by omega))
def PFr (st st' : St) : Prop := (∀ k, k ∉ [70, 86, 87] → st' k = st k) ∧ ∀ j, j ≠ 19 → st' 70 j = st 70 j
theorem PFr.trans {x y z : St} (h1 : PFr x y) (h2 : PFr y z) : PFr x z := ⟨fun k hk => by rw [h2.1 k hk, h1.1 k hk], fun j hj => by rw [h2.2 j hj, h1.2 j hj]⟩
theorem Good.kept {S : Sn} {mode : Bool} {st st' : St} (h : Good S mode st) (h82 : st' 82 = st 82) (h83 : st' 83 = st 83) : Good S mode st' := by
  unfold Good Laid at *
  rw [h82, h83]
  exact h
theorem lplan_lp {S : Sn} {N r : Nat} {mode : Bool} (hN : 6000 ≤ N) (hS : SnOk S) (hr1 : 1 ≤ r) (hr3 : r ≤ 3) (K : Int32 → St → Option St) : ∀ (j m x b : Nat) (st : St), x + j = r ^ (mems (usedS S)).length → j < m → Good S mode st → facR S mode r (mems (usedS S)).length x b st → ∃ (st' : St) (b' : Nat), lp_X8_layPlan_32 N (nI r) (bi mode) (nI (usedS S)) (nI (r ^ (mems (usedS S)).length)) K m (nI b) (nI x) st = K (nI b') st' ∧ facR S mode r (mems (usedS S)).length (r ^ (mems (usedS S)).length) b' st' ∧ PFr st st' := by
  have hk := mems_len (usedS S)
  have hp := pow_lt hr3 hk
  intro j
  induction j with
  | zero =>
    intro m x b st h1 h2 hG hF
    obtain ⟨m', rfl⟩ : ∃ m', m = m' + 1 := ⟨m - 1, by omega⟩
    refine ⟨st, b, ?_, ?_, fun _ _ => rfl, fun _ _ => rfl⟩
    · change lpB_X8_layPlan_32 N (nI r) (bi mode) (nI (usedS S)) (nI (r ^ (mems (usedS S)).length)) K (lp_X8_layPlan_32 N (nI r) (bi mode) (nI (usedS S)) (nI (r ^ (mems (usedS S)).length)) K m') (nI b) (nI x) st = _
      unfold lpB_X8_layPlan_32
      rw [if_pos (nI_le (by omega) (by omega))]
    · rw [show x = r ^ (mems (usedS S)).length by omega] at hF
      exact hF
  | succ j ih =>
    intro m x b st h1 h2 hG hF
    obtain ⟨m', rfl⟩ : ∃ m', m = m' + 1 := ⟨m - 1, by omega⟩
    change ∃ (st' : St) (b' : Nat), lpB_X8_layPlan_32 N (nI r) (bi mode) (nI (usedS S)) (nI (r ^ (mems (usedS S)).length)) K (lp_X8_layPlan_32 N (nI r) (bi mode) (nI (usedS S)) (nI (r ^ (mems (usedS S)).length)) K m') (nI b) (nI x) st = _ ∧ _
    unfold lpB_X8_layPlan_32
    rw [if_neg (nI_ge (by omega) (by omega))]
    obtain ⟨g, h, a1, a2, a3⟩ := partM (st := st) (N := N) (x := x) (by omega) (used_lt hS) hr1 hr3 (by omega)
    rw [a1, bs_s]
    generalize hs1 : upr (upr st 86 g) 87 h = s1
    have f1 : PFr st s1 := by
      rw [← hs1]
      refine ⟨fun k hk => ?_, fun j hj => ?_⟩
      · simp only [List.mem_cons, List.not_mem_nil, or_false, not_or] at hk
        rw [upr_app, if_neg hk.2.2, upr_app, if_neg hk.2.1]
      · rw [upr_app, if_neg (by decide), upr_app, if_neg (by decide)]
    have G1 : Good S mode s1 := hG.kept (f1.1 82 (by decide)) (f1.1 83 (by decide))
    have e19 : s1 70 19 = st 70 19 := by
      rw [← hs1, upr_app, if_neg (by decide), upr_app, if_neg (by decide)]
    have hcn := costNowM (asg := dg r (mems (usedS S)).length x) G1 (dg_len _ _ _) (by
      intro q hq
      rw [← hs1, upr_app, if_pos rfl]
      exact a3 q hq)
    have hca := costAsg_le hS mode (dg r (mems (usedS S)).length x)
    rw [hcn]
    simp only [lt_eq, bs_s, nI_1]
    have keep : facc S mode r (mems (usedS S)).length (x + 1) = some (costAsg S mode (dg r (mems (usedS S)).length x), dg r (mems (usedS S)).length x) → ∃ (st' : St) (b' : Nat), lp_X8_layPlan_32 N (nI r) (bi mode) (nI (usedS S)) (nI (r ^ (mems (usedS S)).length)) K m' (nI x) (nI (x + 1)) (up s1 70 19 (nI (costAsg S mode (dg r (mems (usedS S)).length x)))) = K (nI b') st' ∧ facR S mode r (mems (usedS S)).length (r ^ (mems (usedS S)).length) b' st' ∧ PFr st st' := by
      intro hfx
      have f2 : PFr s1 (up s1 70 19 (nI (costAsg S mode (dg r (mems (usedS S)).length x)))) := by
        refine ⟨fun k hk => ?_, fun j hj => ?_⟩
        · simp only [List.mem_cons, List.not_mem_nil, or_false, not_or] at hk
          rw [up_row, if_neg hk.1]
        · rw [up_row, if_pos rfl, upd_app, if_neg hj]
      obtain ⟨st', b', c1, c2, c3⟩ := ih m' (x + 1) x (up s1 70 19 (nI (costAsg S mode (dg r (mems (usedS S)).length x)))) (by omega) (by omega) (G1.kept (f2.1 82 (by decide)) (f2.1 83 (by decide))) (by
        unfold facR
        rw [hfx]
        exact ⟨by rw [up_row, if_pos rfl, upd_app, if_pos rfl], hca, rfl, by omega⟩)
      exact ⟨st', b', c1, c2, (f1.trans f2).trans c3⟩
    have hfs := facc_s (S := S) (mode := mode) (r := r) (k := (mems (usedS S)).length) (x := x)
    rw [e19]
    unfold facR at hF
    cases hf : facc S mode r (mems (usedS S)).length x with
    | none =>
      rw [hf] at hF hfs
      rw [hF.1, if_pos (by decide)]
      exact keep hfs
    | some q =>
      rw [hf] at hF hfs
      obtain ⟨q1, q2, q3, q4⟩ := hF
      rw [q1, if_neg (nI_pos (by omega))]
      have hfm : fm (costAsg S mode) (some q) (dg r (mems (usedS S)).length x) = if costAsg S mode (dg r (mems (usedS S)).length x) < q.1 then some (costAsg S mode (dg r (mems (usedS S)).length x), dg r (mems (usedS S)).length x) else some q := rfl
      rw [hfm] at hfs
      by_cases hc : costAsg S mode (dg r (mems (usedS S)).length x) < q.1
      · rw [if_neg (by rw [nI_leI (by omega) (by omega)]; omega)]
        rw [if_pos hc] at hfs
        exact keep hfs
      · rw [if_pos ((nI_leI (by omega) (by omega)).mpr (by omega))]
        rw [if_neg hc] at hfs
        obtain ⟨st', b', c1, c2, c3⟩ := ih m' (x + 1) b s1 (by omega) (by omega) G1 (by
          unfold facR
          rw [hfs]
          exact ⟨by rw [e19]; exact q1, q2, q3, q4⟩)
        exact ⟨st', b', c1, c2, f1.trans c3⟩
theorem cell_lp {S : Sn} {st : St} {mode : Bool} {q set : Nat} (hq : q < 3) (hset : set < 128) (h87 : st 87 q = nI set) (hL : 0 < set → Laid S mode set st) (K : St → Option St) : ∀ (m v : Nat) (g : Nat → Int32) (c : Nat → Int32), v ≤ 7 → 7 - v < m → (∀ u, u < 7 → g u = if u < v ∧ set.testBit u = true then nI (cellOf (mems set) (opt S set mode).2 u) else c u) → ∃ g' : Nat → Int32, lp_X8_layPlan_110 (bi mode) (nI q) K m (nI v) (upr st 80 g) = K (upr st 80 g') ∧ ∀ u, u < 7 → g' u = if set.testBit u = true then nI (cellOf (mems set) (opt S set mode).2 u) else c u := by
  have hm : mode.toNat < 2 := by cases mode <;> decide
  intro m
  induction m with
  | zero => intro v g c h1 h2; omega
  | succ m ih =>
    intro v g c h1 h2 h3
    change ∃ g' : Nat → Int32, lpB_X8_layPlan_110 (bi mode) (nI q) K (lp_X8_layPlan_110 (bi mode) (nI q) K m) (nI v) (upr st 80 g) = _ ∧ _
    unfold lpB_X8_layPlan_110
    by_cases hv : v = 7
    · subst hv
      rw [if_pos (by decide)]
      refine ⟨g, rfl, fun u hu => ?_⟩
      rw [h3 u hu]
      simp [hu]
    · rw [if_neg (by rw [L7]; exact nI_ge (by omega) (by decide))]
      have r87 : ∀ g, (upr st 80 g) 87 q = nI set := fun g => by rw [upr_app, if_neg (by decide)]; exact h87
      have r83 : ∀ g, (upr st 80 g) 83 = st 83 := fun g => by rw [upr_app, if_neg (by decide)]
      have r80 : ∀ g, (upr st 80 g) 80 = g := fun g => by rw [upr_app, if_pos rfl]
      simp (disch := omega) only [ck_in, nI_clamp, r87, hasM, bs_s]
      cases hb : set.testBit v with
      | false =>
        rw [if_pos (by rfl)]
        simp (disch := omega) only [lt_eq, ck_in, nI_clamp, nI_1, up_upr, r80]
        refine ih (v + 1) _ c (by omega) (by omega) ?_
        intro u hu
        rw [upd_app]
        by_cases e : u = v
        · rw [if_pos e, e, h3 v (by omega)]
          simp [hb]
        · rw [if_neg e, h3 u hu]
          by_cases e2 : u < v
          · simp [e2, show u < v + 1 by omega]
          · simp [e2, show ¬ u < v + 1 by omega]
      | true =>
        have h0 : 0 < set := by
          rcases Nat.eq_zero_or_pos set with h | h
          · rw [h] at hb; simp at hb
          · exact h
        have hL2 := (hL h0).2 v (by omega) hb
        rw [if_neg (by decide), bi_t]
        simp (disch := omega) only [lt_eq, L7, L128, pk_mul, nI_add, ck_in, nI_clamp, nI_1, up_upr, r83, hL2]
        rw [← bi_t]
        refine ih (v + 1) _ c (by omega) (by omega) ?_
        intro u hu
        rw [upd_app]
        by_cases e : u = v
        · rw [if_pos e, e]
          simp [hb]
        · rw [if_neg e, h3 u hu]
          by_cases e2 : u < v
          · simp [e2, show u < v + 1 by omega]
          · simp [e2, show ¬ u < v + 1 by omega]
theorem planA_len {S : Sn} {r : Nat} {mode : Bool} (hr1 : 1 ≤ r) (hr3 : r ≤ 3) : (planA S r mode).2.length = (mems (usedS S)).length ∧ (planA S r mode).2 ∈ asgs r (mems (usedS S)).length ∧ (planA S r mode).1 = costAsg S mode (planA S r mode).2 ∧ ∀ a, a ∈ asgs r (mems (usedS S)).length → (planA S r mode).1 ≤ costAsg S mode a := by
  have hk := mems_len (usedS S)
  have ha := asgs_dg r (by omega) hr1 _ hk
  have hne : asgs r (mems (usedS S)).length ≠ [] := by
    rw [← ha]
    intro h
    have := congrArg List.length h
    rw [List.length_map, List.length_range] at this
    have := Nat.pow_pos (n := (mems (usedS S)).length) (show 0 < r by omega)
    simp at *
    omega
  obtain ⟨p, p1, p2, p3, p4⟩ := fm_none (f := costAsg S mode) hne
  unfold planA
  rw [p1]
  refine ⟨?_, p3, p2, p4⟩
  rw [← ha] at p3
  obtain ⟨x, -, hx⟩ := List.mem_map.mp p3
  show p.2.length = _
  rw [← hx, dg_len]
theorem asgs_lt {r : Nat} : ∀ k (a : List Nat), a ∈ asgs r k → a.length = k ∧ ∀ g, g ∈ a → g < r := by
  intro k
  induction k with
  | zero =>
    intro a h
    rw [show asgs r 0 = [[]] from rfl, List.mem_singleton] at h
    subst h
    exact ⟨rfl, fun g hg => by cases hg⟩
  | succ k ih =>
    intro a h
    rw [show asgs r (k + 1) = (List.range r).flatMap (fun g => (asgs r k).map (fun l => g :: l)) from rfl, List.mem_flatMap] at h
    obtain ⟨g, hg, h⟩ := h
    obtain ⟨l, hl, rfl⟩ := List.mem_map.mp h
    obtain ⟨i1, i2⟩ := ih l hl
    refine ⟨by rw [List.length_cons, i1], fun x hx => ?_⟩
    rcases List.mem_cons.mp hx with rfl | hx
    · exact List.mem_range.mp hg
    · exact i2 x hx
theorem regOf_lt {S : Sn} {r v : Nat} {mode : Bool} (hr1 : 1 ≤ r) (hr3 : r ≤ 3) (hv : v < 7) (hb : (usedS S).testBit v = true) : regOf S r mode v < r := by
  obtain ⟨h1, h2, -⟩ := planA_len (S := S) (mode := mode) hr1 hr3
  obtain ⟨i1, i2⟩ := idx_getD (mems_mem.mpr ⟨hv, hb⟩)
  unfold regOf cellOf
  exact (asgs_lt _ _ h2).2 _ (getD_mem (by rw [h1]; exact i1))
theorem blkOf_iff {S : Sn} {r g w : Nat} {mode : Bool} (hr1 : 1 ≤ r) (hr3 : r ≤ 3) : ((blkOf S r mode g).testBit w = true ↔ (w < 7 ∧ (usedS S).testBit w = true ∧ regOf S r mode w = g)) := blk_iff (planA_len hr1 hr3).1
def turnQ (S : Sn) (r : Nat) (mode : Bool) : Nat → Nat
  | 0 => 0
  | q + 1 => turnQ S r mode q ||| turnB S (blkOf S r mode q) mode
theorem turnQ_3 (S : Sn) (r : Nat) (mode : Bool) : turnQ S r mode 3 = turnP S r mode := by
  unfold turnP
  show ((0 ||| _) ||| _) ||| _ = _
  rw [Nat.zero_or]
def QFr (st st' : St) : Prop := (∀ k, k ∉ [70, 80, 81] → st' k = st k) ∧ ∀ j, j ≠ 12 → j ≠ 20 → st' 70 j = st 70 j
theorem QFr.trans {x y z : St} (h1 : QFr x y) (h2 : QFr y z) : QFr x z := ⟨fun k hk => by rw [h2.1 k hk, h1.1 k hk], fun j hj hk => by rw [h2.2 j hj hk, h1.2 j hj hk]⟩
theorem QFr.mod {S : Sn} {x y : St} (h : QFr x y) (hm : ModRep S x) : ModRep S y := hm.kept (h.2 0 (by decide) (by decide)) (h.1 _ (by decide)) (h.1 _ (by decide)) (h.1 _ (by decide)) (h.1 _ (by decide)) (h.1 _ (by decide)) (h.1 _ (by decide)) (h.1 _ (by decide))
theorem turnB_eq (S : Sn) (set : Nat) (mode : Bool) : turnB S set mode = tg S (frC (sF S) (cellOf (mems set) (opt S set mode).2)) (fun v => set.testBit v) mode (sN S) 7 := rfl
theorem opt_row {S : Sn} {set : Nat} {mode : Bool} : rowOk (mems set).length (opt S set mode).2 := perms_ok (opt_spec S set mode).2.1
theorem opt_cell {S : Sn} {set v : Nat} {mode : Bool} (hv : v < 7) (hb : set.testBit v = true) : cellOf (mems set) (opt S set mode).2 v < 7 := by
  obtain ⟨i1, i2⟩ := idx_getD (mems_mem.mpr ⟨hv, hb⟩)
  have := row_lt (opt_row (S := S) (set := set) (mode := mode)) i1
  have := mems_len set
  unfold cellOf
  omega
theorem plan3_lp {S : Sn} {N r : Nat} {mode : Bool} (hN : 6000 ≤ N) (hS : SnOk S) (hr1 : 1 ≤ r) (hr3 : r ≤ 3) : ∀ (j m q : Nat) (st : St), q + j = 3 → j < m → ModRep S st → Good S mode st → (∀ g, g < 3 → st 87 g = nI (blkOf S r mode g)) → st 70 20 = nI (turnQ S r mode q) → (∀ v, v < 7 → (usedS S).testBit v = true → regOf S r mode v < q → st 80 v = nI (cellP S r mode v)) → ∃ st' : St, lp_X8_layPlan_101 N (bi mode) m (nI q) st = some st' ∧ st' 70 20 = nI (turnP S r mode) ∧ (∀ v, v < 7 → (usedS S).testBit v = true → st' 80 v = nI (cellP S r mode v)) ∧ QFr st st' := by
  intro j
  induction j with
  | zero =>
    intro m q st h1 h2 hm hG h87 h20 hc
    obtain ⟨m', rfl⟩ : ∃ m', m = m' + 1 := ⟨m - 1, by omega⟩
    obtain rfl : q = 3 := by omega
    refine ⟨st, ?_, by rw [← turnQ_3]; exact h20, fun v hv hb => hc v hv hb (by have := regOf_lt (mode := mode) hr1 hr3 hv hb; omega), fun _ _ => rfl, fun _ _ _ => rfl⟩
    change lpB_X8_layPlan_101 N (bi mode) (lp_X8_layPlan_101 N (bi mode) m') (nI 3) st = _
    unfold lpB_X8_layPlan_101
    rw [if_pos (by decide)]
  | succ j ih =>
    intro m q st h1 h2 hm hG h87 h20 hc
    obtain ⟨m', rfl⟩ : ∃ m', m = m' + 1 := ⟨m - 1, by omega⟩
    change ∃ st' : St, lpB_X8_layPlan_101 N (bi mode) (lp_X8_layPlan_101 N (bi mode) m') (nI q) st = _ ∧ _
    unfold lpB_X8_layPlan_101
    rw [if_neg (by rw [L3]; exact nI_ge (by omega) (by decide)), lt_eq]
    have hl := (planA_len (S := S) (mode := mode) hr1 hr3).1
    have hset : blkOf S r mode q < 128 := blk_lt hl
    have hsub : sub (blkOf S r mode q) (usedS S) = true := blk_sub hl
    obtain ⟨g, a1, a2⟩ := cell_lp (S := S) (mode := mode) (show q < 3 by omega) hset (h87 q (by omega)) (fun h0 => hG.2 _ h0 hset hsub) (fun (s50 : St) => ck (inb (nI q) 3) (bd (F_X8_turnedFor N (s50 87 (nI q).toNatClampNeg) (bi mode) s50) (fun (r51 : Int32) (s52 : St) => lt (up s52 70 20 ((s50 70 20) ||| r51)) (fun (s53 : St) => lt (nI q + (1 : Int32)) (fun (v54 : Int32) => lp_X8_layPlan_101 N (bi mode) m' v54 s53))))) N 0 (st 80) (st 80) (by omega) (by omega) (fun u hu => by simp)
    rw [upr_id, nI0] at a1
    rw [a1]
    generalize hs1 : upr st 80 g = s1
    have f1 : QFr st s1 := by
      rw [← hs1]
      refine ⟨fun k hk => ?_, fun j hj hk => ?_⟩
      · simp only [List.mem_cons, List.not_mem_nil, or_false, not_or] at hk
        rw [upr_app, if_neg hk.2.1]
      · rw [upr_app, if_neg (by decide)]
    have e87 : s1 87 q = nI (blkOf S r mode q) := by rw [f1.1 87 (by decide)]; exact h87 q (by omega)
    have e20 : s1 70 20 = nI (turnQ S r mode q) := by
      rw [← hs1, upr_app, if_neg (by decide)]
      exact h20
    have hcel : CelM (blkOf S r mode q) (cellOf (mems (blkOf S r mode q)) (opt S (blkOf S r mode q) mode).2) s1 := by
      intro v hv hb
      rw [← hs1, upr_app, if_pos rfl, a2 v hv, if_pos hb]
      exact ⟨rfl, opt_cell hv hb⟩
    obtain ⟨gp, xp, b1⟩ := turnedM (N := N) (mode := mode) (by omega) hS hset (f1.mod hm) hcel
    simp (disch := omega) only [ck_in, nI_clamp, e87]
    rw [b1, bd_s, lt_eq, lt_eq, e20, nI_or, nI_1, ← turnB_eq]
    rw [show turnQ S r mode q ||| turnB S (blkOf S r mode q) mode = turnQ S r mode (q + 1) from rfl]
    generalize hs2 : up (stP s1 gp xp) 70 20 (nI (turnQ S r mode (q + 1))) = s2
    have f2 : QFr s1 s2 := by
      rw [← hs2]
      unfold stP
      refine ⟨fun k hk => ?_, fun j hj hk => ?_⟩
      · simp only [List.mem_cons, List.not_mem_nil, or_false, not_or] at hk
        rw [up_row, if_neg hk.1, up_row, if_neg hk.1, upr_app, if_neg hk.2.2]
      · rw [up_row, if_pos rfl, upd_app, if_neg hk, up_row, if_pos rfl, upd_app, if_neg hj, upr_app, if_neg (by decide)]
    have e80 : s2 80 = s1 80 := by
      rw [← hs2]
      unfold stP
      rw [up_row, if_neg (by decide), up_row, if_neg (by decide), upr_app, if_neg (by decide)]
    have f12 := f1.trans f2
    obtain ⟨st', c1, c2, c3, c4⟩ := ih m' (q + 1) s2 (by omega) (by omega) (f12.mod hm) (hG.kept (f12.1 82 (by decide)) (f12.1 83 (by decide))) (fun g hg => by rw [f12.1 87 (by decide)]; exact h87 g hg) (by
      rw [← hs2, up_row, if_pos rfl, upd_app, if_pos rfl]) (by
      intro v hv hb hr
      rw [e80, ← hs1, upr_app, if_pos rfl, a2 v hv]
      by_cases e : regOf S r mode v = q
      · rw [if_pos ((blkOf_iff hr1 hr3).mpr ⟨hv, hb, e⟩)]
        unfold cellP
        rw [e]
      · rw [if_neg (fun h => e ((blkOf_iff hr1 hr3).mp h).2.2)]
        exact hc v hv hb (by omega))
    exact ⟨st', c1, c2, c3, f12.trans c4⟩
/-- what the reference's plan is -/
def PlanM (S : Sn) (r : Nat) (mode : Bool) (st : St) : Prop := st 70 19 = nI (planA S r mode).1 ∧ st 70 20 = nI (turnP S r mode) ∧ (∀ g, g < 3 → st 87 g = nI (blkOf S r mode g)) ∧ ∀ v, v < 7 → (usedS S).testBit v = true → st 86 v = nI (regOf S r mode v) ∧ st 80 v = nI (cellP S r mode v)
theorem layPlanC {S : Sn} {st : St} {N r : Nat} {mode : Bool} (hN : 6000 ≤ N) (hS : SnOk S) (hM : ModRep S st) (hC : Cache S st) (hr1 : 1 ≤ r) (hr3 : r ≤ 3) : ∃ st' : St, F_X8_layPlan N (nI r) (bi mode) st = some st' ∧ KF st st' ∧ Cache S st' ∧ PlanM S r mode st' := by
  obtain ⟨s1, a1, hK1, hC1, hG1⟩ := laySetsC (mode := mode) hN hS hM hC
  have hk := mems_len (usedS S)
  have hp := pow_lt hr3 hk
  obtain ⟨g, b1⟩ := onesM (N := N) (by omega) hS (hK1.mod hM)
  generalize hs2 : up (upr s1 79 g) 70 19 (-6) = s2
  have G2 : Good S mode s2 := by
    rw [← hs2]
    exact hG1.kept (by simp only [up_row, upr_app, Nat.reduceEqDiff, if_false]) (by simp only [up_row, upr_app, Nat.reduceEqDiff, if_false])
  obtain ⟨s3, b, c1, c2, c3⟩ := lplan_lp (S := S) (mode := mode) hN hS hr1 hr3 (fun (v39 : Int32) (s40 : St) => bs (F_X8_part N (nI (usedS S)) (nI r) v39 s40) (fun (s41 : St) => lt (up s41 70 20 (0 : Int32)) (fun (s42 : St) => lt (0 : Int32) (fun (v43 : Int32) => lp_X8_layPlan_101 N (bi mode) N v43 s42)))) (r ^ (mems (usedS S)).length) N 0 0 s2 (by omega) (by omega) G2 (by
    unfold facR
    rw [show facc S mode r (mems (usedS S)).length 0 = none from rfl]
    exact ⟨by rw [← hs2, up_row, if_pos rfl, upd_app, if_pos rfl], rfl⟩)
  have hfa : facc S mode r (mems (usedS S)).length (r ^ (mems (usedS S)).length) = some (planA S r mode) := by
    have ha := asgs_dg r (by omega) hr1 _ hk
    have hne : asgs r (mems (usedS S)).length ≠ [] := by
      intro h
      have := (planA_len (S := S) (mode := mode) hr1 hr3).2.1
      rw [h] at this
      cases this
    obtain ⟨p, p1, -⟩ := fm_none (f := costAsg S mode) hne
    unfold facc planA
    rw [ha, p1]
    rfl
  unfold facR at c2
  rw [hfa] at c2
  obtain ⟨d1, -, d3, d4⟩ := c2
  obtain ⟨g4, h4, e1, e2, e3⟩ := partM (st := s3) (N := N) (x := b) (by omega) (used_lt hS) hr1 hr3 (by omega)
  rw [← d3] at e2 e3
  generalize hs5 : up (upr (upr s3 86 g4) 87 h4) 70 20 0 = s5
  have hall5 : ∀ k, k ∉ [70, 79, 86, 87] → s5 k = s1 k := by
    intro k hk
    simp only [List.mem_cons, List.not_mem_nil, or_false, not_or] at hk
    rw [← hs5, up_row, if_neg hk.1, upr_app, if_neg hk.2.2.2, upr_app, if_neg hk.2.2.1, c3.1 k (by simp only [List.mem_cons, List.not_mem_nil, or_false, not_or]; omega), ← hs2, up_row, if_neg hk.1, upr_app, if_neg hk.2.1]
  have h70 : ∀ j, j ≠ 19 → j ≠ 20 → s5 70 j = s1 70 j := by
    intro j j1 j2
    rw [← hs5, up_row, if_pos rfl, upd_app, if_neg j2, upr_app, if_neg (by decide), upr_app, if_neg (by decide), c3.2 j j1, ← hs2, up_row, if_pos rfl, upd_app, if_neg j1, upr_app, if_neg (by decide)]
  have hall5s : ∀ k, k ∉ sIds → s5 k = s1 k := fun k hk => hall5 k (by
    simp only [sIds, List.mem_cons, List.not_mem_nil, or_false, not_or] at *
    omega)
  have hK5 : KF s1 s5 := KF.look (h70 0 (by decide) (by decide)) hall5s
  have hC5 : Cache S s5 := hC1.kept (fun k hk => hall5s k (c_s hk))
  have G5 : Good S mode s5 := hG1.kept (hall5 82 (by decide)) (hall5 83 (by decide))
  have h519 : s5 70 19 = nI (planA S r mode).1 := by
    rw [← hs5, up_row, if_pos rfl, upd_app, if_neg (by decide), upr_app, if_neg (by decide), upr_app, if_neg (by decide)]
    exact d1
  have h587 : ∀ q, q < 3 → s5 87 q = nI (blkOf S r mode q) := by
    intro q hq
    rw [← hs5, up_row, if_neg (by decide), upr_app, if_pos rfl]
    exact e3 q hq
  have h586 : ∀ v, v < 7 → (usedS S).testBit v = true → s5 86 v = nI (regOf S r mode v) := by
    intro v hv hb
    rw [← hs5, up_row, if_neg (by decide), upr_app, if_neg (by decide), upr_app, if_pos rfl]
    exact e2 v hv hb
  obtain ⟨s6, f1, f2, f3, f4⟩ := plan3_lp (S := S) (mode := mode) hN hS hr1 hr3 3 N 0 s5 (by omega) (by omega) (hK5.mod (hK1.mod hM)) G5 h587 (by
    rw [← hs5, up_row, if_pos rfl, upd_app, if_pos rfl]
    rfl) (fun v hv hb hr => by omega)
  have hall6 : ∀ k, k ∉ sIds → s6 k = s5 k := fun k hk => f4.1 k (by
    simp only [sIds, List.mem_cons, List.not_mem_nil, or_false, not_or] at *
    omega)
  refine ⟨s6, ?_, (hK1.trans hK5).trans (KF.look (f4.2 0 (by decide) (by decide)) hall6), hC5.kept (fun k hk => hall6 k (c_s hk)), ?_, f2, ?_, ?_⟩
  · unfold F_X8_layPlan
    rw [a1, bs_s, b1, bd_s, lt_eq, bitsM (by omega) (used_lt hS), bs_s, powM (by omega) hk, bs_s, lt_eq, lt_eq, lt_eq, lt_eq, hs2]
    rw [nI0] at c1
    rw [c1, e1, bs_s, lt_eq, lt_eq, hs5]
    exact f1
  · rw [f4.2 19 (by decide) (by decide)]; exact h519
  · intro q hq
    rw [f4.1 87 (by decide)]; exact h587 q hq
  · intro v hv hb
    exact ⟨by rw [f4.1 86 (by decide)]; exact h586 v hv hb, f3 v hv hb⟩
theorem layPlanM {S : Sn} {kp : Nat → Bool} {SI : Nat → Sn} {st : St} {N r : Nat} {mode : Bool} (hN : 6000 ≤ N) (hI : InvS S kp SI st) (hr1 : 1 ≤ r) (hr3 : r ≤ 3) : ∃ st' : St, F_X8_layPlan N (nI r) (bi mode) st = some st' ∧ InvS S kp SI st' ∧ PlanM S r mode st' := by
  obtain ⟨st', h1, h2, h3, h4⟩ := layPlanC (mode := mode) hN hI.1 hI.2.2.1 hI.2.2.2.1 hr1 hr3
  exact ⟨st', h1, hI.kf h2 h3, h4⟩
