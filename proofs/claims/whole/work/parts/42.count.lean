def popK (n k : Nat) : Nat := ((List.range k).filter (fun v => n.testBit v)).length
theorem popK_s (n k : Nat) : popK n (k + 1) = popK n k + (if n.testBit k then 1 else 0) := by
  unfold popK
  rw [List.range_succ, List.filter_append, List.length_append]
  cases h : n.testBit k <;> simp [h]
theorem popK_7 (n : Nat) : popK n 7 = (mems n).length := rfl
theorem popK_le (n : Nat) : ∀ k, popK n k ≤ k := by
  intro k
  induction k with
  | zero => exact Nat.le_refl _
  | succ k ih => rw [popK_s]; split <;> omega
theorem bi_nI (b : Bool) : bi b = nI (if b then 1 else 0) := by cases b <;> rfl
theorem bits_lp {n : Nat} (hn : n < 128) : ∀ (m k : Nat), k ≤ 7 → 7 - k < m → lp_X8_bits_4 (nI n) m (nI (popK n k)) (nI k) = some (nI (mems n).length) := by
  intro m
  induction m with
  | zero => intro k h1 h2; omega
  | succ m ih =>
    intro k h1 h2
    change lpB_X8_bits_4 (nI n) (lp_X8_bits_4 (nI n) m) (nI (popK n k)) (nI k) = _
    unfold lpB_X8_bits_4
    by_cases hk : k = 7
    · subst hk
      rw [if_pos (by decide)]
      rfl
    · rw [if_neg (by rw [L7]; exact nI_ge (by omega) (by decide)), bit_s (by omega) (by omega), bi_nI, nI_add, ← popK_s, lt_eq, lt_eq, nI_1]
      exact ih (k + 1) (by omega) (by omega)
theorem bitsM {n N : Nat} (hN : 8 ≤ N) (hn : n < 128) : F_X8_bits N (nI n) = some (nI (mems n).length) := bits_lp hn N 0 (by omega) (by omega)
theorem bitCX : ∀ n, n < 128 → F_J6_bitCount_0f7a4 (nI n) = some (nI (mems n).length) := by decide +kernel
theorem used_ne {S : Sn} : usedS S = 0 ↔ sN S = 0 := by
  constructor
  · intro h
    rcases Nat.eq_zero_or_pos (sN S) with h0 | h0
    · exact h0
    · have := (used_iff (S := S) (v := sT S 0)).mpr ⟨0, h0, Or.inl rfl⟩
      rw [h] at this
      simp at this
  · intro h
    unfold usedS
    rw [h]
    rfl
def fst0 (S : Sn) : Nat := if sN S = 0 then 0 else 1
theorem firstX {S : Sn} {st : St} (hS : SnOk S) (h : st 1 0 = nI (sN S)) : F_X7_first st = some (nI (fst0 S)) := by
  unfold F_X7_first fst0
  rw [h]
  have := hS.1
  by_cases e : sN S = 0
  · rw [if_pos (by rw [e]; decide), if_pos e]
    rfl
  · rw [if_neg (by rw [L0, nI_leI (by omega) (by omega)]; omega), if_neg e]
    rfl
theorem gcM_lp {st : St} {w : Nat → Nat} {tk : Nat → Bool} (hw : ∀ i, i < 49 → st 88 i = nI (w i)) (ht : ∀ i, i < 49 → st 89 i = bi (tk i)) (c : Nat) : ∀ (m k : Nat), k ≤ 49 → 49 - k < m → lp_X8_greedyCost_19 st m (nI (c + sumR (fun k => if k / 7 < k % 7 ∧ tk k = false then w k else 0) k)) (nI k) = some (nI (c + lf w tk), st) := by
  intro m
  induction m with
  | zero => intro k h1 h2; omega
  | succ m ih =>
    intro k h1 h2
    change lpB_X8_greedyCost_19 st (lp_X8_greedyCost_19 st m) _ (nI k) = _
    unfold lpB_X8_greedyCost_19
    by_cases hk : k = 49
    · subst hk
      rw [if_pos (by decide)]
      rfl
    · have hk49 : k < 49 := by omega
      rw [if_neg (by rw [L49]; exact nI_ge (by omega) (by decide))]
      simp only [ck7, lt_eq]
      rw [rem7 hk49, div7 hk49]
      simp (disch := omega) only [ck_in, nI_clamp, nI_1, hw, ht]
      have hi := ih (k + 1) (by omega) (by omega)
      rw [show sumR (fun k => if k / 7 < k % 7 ∧ tk k = false then w k else 0) (k + 1) = sumR (fun k => if k / 7 < k % 7 ∧ tk k = false then w k else 0) k + (if k / 7 < k % 7 ∧ tk k = false then w k else 0) from rfl] at hi
      by_cases hp : k % 7 ≤ k / 7
      · rw [if_pos ((nI_leI (by omega) (by omega)).mpr hp), L0, nI_add]
        rw [if_neg (by omega)] at hi
        exact hi
      · rw [if_neg (by rw [nI_leI (by omega) (by omega)]; exact hp)]
        cases hgk : tk k with
        | true =>
          rw [if_neg (by decide), L0, nI_add]
          rw [if_neg (by rw [hgk]; simp)] at hi
          exact hi
        | false =>
          rw [if_pos (by rfl), nI_add, Nat.add_assoc]
          rw [if_pos ⟨by omega, hgk⟩] at hi
          exact hi
def bRun : Nat → (Nat → Nat) → Int32 → Int32
  | 0, _, s => s
  | j + 1, r, s => match gst r 49 with
    | none => bRun j r s
    | some p => bRun j (fun i => if i = p then 0 else r i) (s - nI (r p))
theorem bRun_add (c : Int32) : ∀ (j : Nat) (r : Nat → Nat) (s : Int32), bRun j r (c + s) = c + bRun j r s := by
  intro j
  induction j with
  | zero => intro r s; rfl
  | succ j ih =>
    intro r s
    unfold bRun
    cases gst r 49 with
    | none => exact ih r s
    | some p =>
      simp only
      rw [← ih]
      congr 1
      rw [Int32.sub_eq_add_neg, Int32.sub_eq_add_neg, Int32.add_assoc]
theorem lbg_lp {st : St} {N n : Nat} (hN : 129 ≤ N) (hn : n < 8) : ∀ (j m k : Nat) (s : Int32) (r : Nat → Nat) (g : Nat → Int32), k + j = n → j < m → (∀ i, i < 49 → r i ≤ 60) → (∀ i, i < 49 → g i = nI (r i)) → ∃ g' : Nat → Int32, lp_X0_leftByGreatest_9 N (nI n) m s (nI k) (upr st 67 g) = some (bRun j r s, upr st 67 g') := by
  intro j
  induction j with
  | zero =>
    intro m k s r g h1 h2 hr hg
    obtain ⟨m', rfl⟩ : ∃ m', m = m' + 1 := ⟨m - 1, by omega⟩
    change ∃ g' : Nat → Int32, lpB_X0_leftByGreatest_9 N (nI n) (lp_X0_leftByGreatest_9 N (nI n) m') s (nI k) (upr st 67 g) = _
    unfold lpB_X0_leftByGreatest_9
    rw [if_pos (nI_le (by omega) (by omega))]
    exact ⟨g, rfl⟩
  | succ j ih =>
    intro m k s r g h1 h2 hr hg
    obtain ⟨m', rfl⟩ : ∃ m', m = m' + 1 := ⟨m - 1, by omega⟩
    change ∃ g' : Nat → Int32, lpB_X0_leftByGreatest_9 N (nI n) (lp_X0_leftByGreatest_9 N (nI n) m') s (nI k) (upr st 67 g) = _
    unfold lpB_X0_leftByGreatest_9
    have r67 : ∀ g, (upr st 67 g) 67 = g := fun g => by rw [upr_app, if_pos rfl]
    rw [if_neg (nI_ge (by omega) (by omega)), greatX (r := r) hN (by rw [r67]; exact hg) (fun i hi => by have := hr i hi; omega), bs_s, lt_eq]
    have hb : bRun (j + 1) r s = match gst r 49 with
      | none => bRun j r s
      | some p => bRun j (fun i => if i = p then 0 else r i) (s - nI (r p)) := rfl
    rw [hb]
    cases hp : gst r 49 with
    | none =>
      rw [if_pos (by decide), lt_eq, nI_1]
      exact ih m' (k + 1) s r g (by omega) (by omega) hr hg
    | some p =>
      obtain ⟨p1, p2⟩ := gst_s 49 p hp
      rw [show oI (some p) = nI p from rfl, if_neg (nI_pos (by omega))]
      simp (disch := omega) only [lt_eq, ck_in, nI_clamp, nI_1, up_upr, r67, hg]
      refine ih m' (k + 1) _ _ _ (by omega) (by omega) ?_ ?_
      · intro i hi
        by_cases e : i = p
        · rw [if_pos e]; omega
        · rw [if_neg e]; exact hr i hi
      · intro i hi
        rw [upd_app]
        by_cases e : i = p
        · rw [if_pos e, if_pos e]; rfl
        · rw [if_neg e, if_neg e]; exact hg i hi
theorem bnd_lp {st : St} {w : Nat → Nat} {N n : Nat} (hN : 129 ≤ N) (hn : n < 8) (hw : ∀ i, i < 49 → st 88 i = nI (w i)) (hb60 : ∀ i, w i ≤ 60) : ∀ (j m k : Nat) (s : Int32) (gn : Nat → Bool) (g : Nat → Int32), k + j = n → j < m → (∀ i, i < 49 → g i = bi (gn i)) → ∃ g' : Nat → Int32, lp_X8_bound_69 N (nI n) m s (nI k) (upr st 90 g) = some (bRun j (rG w gn) s, upr st 90 g') := by
  intro j
  induction j with
  | zero =>
    intro m k s r g h1 h2 hg
    obtain ⟨m', rfl⟩ : ∃ m', m = m' + 1 := ⟨m - 1, by omega⟩
    change ∃ g' : Nat → Int32, lpB_X8_bound_69 N (nI n) (lp_X8_bound_69 N (nI n) m') s (nI k) (upr st 90 g) = _
    unfold lpB_X8_bound_69
    rw [if_pos (nI_le (by omega) (by omega))]
    exact ⟨g, rfl⟩
  | succ j ih =>
    intro m k s gn g h1 h2 hg
    obtain ⟨m', rfl⟩ : ∃ m', m = m' + 1 := ⟨m - 1, by omega⟩
    change ∃ g' : Nat → Int32, lpB_X8_bound_69 N (nI n) (lp_X8_bound_69 N (nI n) m') s (nI k) (upr st 90 g) = _
    unfold lpB_X8_bound_69
    have r88 : ∀ g, (upr st 90 g) 88 = st 88 := fun g => by rw [upr_app, if_neg (by decide)]
    rw [if_neg (nI_ge (by omega) (by omega)), heavyM (w := w) (gn := gn) hN (by rw [r88]; exact hw) (by rw [upr_app, if_pos rfl]; exact hg) hb60, bs_s, lt_eq]
    have hb : bRun (j + 1) (rG w gn) s = match gst (rG w gn) 49 with
      | none => bRun j (rG w gn) s
      | some p => bRun j (fun i => if i = p then 0 else rG w gn i) (s - nI (rG w gn p)) := rfl
    rw [hb]
    cases hp : gst (rG w gn) 49 with
    | none =>
      rw [if_pos (by decide), lt_eq, nI_1]
      exact ih m' (k + 1) s gn g (by omega) (by omega) hg
    | some p =>
      obtain ⟨p1, p2⟩ := gst_s 49 p hp
      have p3 := (rG_w p2).1
      rw [show oM (some p) = nI p from rfl, if_neg (nI_pos (by omega))]
      simp (disch := omega) only [lt_eq, ck_in, nI_clamp, nI_1, up_upr, r88, hw, nb1]
      rw [p3, rG_up]
      refine ih m' (k + 1) _ _ _ (by omega) (by omega) ?_
      intro i hi
      rw [upd_app]
      by_cases e : i = p
      · rw [if_pos e]; simp [e, bi]
      · rw [if_neg e, hg i hi]; simp [e]
theorem bsum_lp {st : St} {w : Nat → Nat} (hw : ∀ i, i < 49 → st 88 i = nI (w i)) (c : Nat) (K : Int32 → St → Option (Int32 × St)) : ∀ (m k : Nat) (g : Nat → Int32), k ≤ 49 → 49 - k < m → (∀ i, i < k → g i = 0) → ∃ g' : Nat → Int32, lp_X8_bound_24 K m (nI (c + sumR (rW w) k)) (nI k) (upr st 90 g) = K (nI (c + sumR (rW w) 49)) (upr st 90 g') ∧ ∀ i, i < 49 → g' i = 0 := by
  intro m
  induction m with
  | zero => intro k g h1 h2; omega
  | succ m ih =>
    intro k g h1 h2 h3
    change ∃ g' : Nat → Int32, lpB_X8_bound_24 K (lp_X8_bound_24 K m) _ (nI k) (upr st 90 g) = _ ∧ _
    unfold lpB_X8_bound_24
    by_cases hk : k = 49
    · subst hk
      rw [if_pos (by decide)]
      exact ⟨g, rfl, h3⟩
    · have hk49 : k < 49 := by omega
      have r88 : ∀ g, (upr st 90 g) 88 = st 88 := fun g => by rw [upr_app, if_neg (by decide)]
      rw [if_neg (by rw [L49]; exact nI_ge (by omega) (by decide))]
      simp only [ck7, lt_eq]
      rw [rem7 hk49, div7 hk49]
      simp (disch := omega) only [ck_in, nI_clamp, nI_1, nb0, up_upr, r88, hw]
      have hi := ih (k + 1) (upd g k 0) (by omega) (by omega) (by
        intro i hi
        rw [upd_app]
        split
        · rfl
        · exact h3 i (by omega))
      rw [show sumR (rW w) (k + 1) = sumR (rW w) k + rW w k from rfl] at hi
      by_cases hp : k % 7 ≤ k / 7
      · rw [if_pos ((nI_leI (by omega) (by omega)).mpr hp), L0, nI_add]
        rw [show rW w k = 0 by unfold rW; rw [if_neg (by omega)]] at hi
        exact hi
      · rw [if_neg (by rw [nI_leI (by omega) (by omega)]; exact hp), nI_add, Nat.add_assoc]
        rw [show rW w k = w k by unfold rW; rw [if_pos (by omega)]] at hi
        exact hi
theorem boundX {S : Sn} {st : St} {N : Nat} (hN : 129 ≤ N) (hS : SnOk S) (hw : ∀ i, i < 49 → st 26 i = nI (wS S i)) : ∃ g' : Nat → Int32, F_X0_leftByGreatest N (nI (mems (usedS S)).length - 1) st = some (bRun ((mems (usedS S)).length - 1) (rW (wS S)) (nI (sumR (rW (wS S)) 49)), upr st 67 g') := by
  obtain ⟨g, g1, g2⟩ := loadX hN hw
  have hl := mems_len (usedS S)
  unfold F_X0_leftByGreatest
  rw [g1, bd_s, lt_eq, lt_eq]
  generalize (mems (usedS S)).length = n at *
  rcases Nat.eq_zero_or_pos n with rfl | h0
  · obtain ⟨N', rfl⟩ : ∃ N', N = N' + 1 := ⟨N - 1, by omega⟩
    refine ⟨g, ?_⟩
    change lpB_X0_leftByGreatest_9 (N' + 1) (nI 0 - 1) (lp_X0_leftByGreatest_9 (N' + 1) (nI 0 - 1) N') _ 0 (upr st 67 g) = _
    unfold lpB_X0_leftByGreatest_9
    rw [if_pos (by decide)]
    rfl
  · rw [show nI n - 1 = nI (n - 1) from pk_sub (a := n) (b := 1) h0]
    exact lbg_lp hN (by omega) (n - 1) N 0 _ _ g (by omega) (by omega) (fun i _ => by have := wS_le hS i; unfold rW; split <;> omega) g2
theorem boundM {S : Sn} {st : St} {N : Nat} (hN : 129 ≤ N) (hS : SnOk S) (hm : ModRep S st) : ∃ st' : St, F_X8_bound N st = some (nI (fst0 S) + bRun ((mems (usedS S)).length - 1) (rW (wS S)) (nI (sumR (rW (wS S)) 49)), st') ∧ ∀ k, k ∉ [79, 88, 90] → st' k = st k := by
  obtain ⟨g1, g2, a1, a2⟩ := weightsM (N := N) hN hS hm
  have hm2 : ModRep S (upr (upr st 79 g2) 88 g1) := hm.kept (by simp [upr_app]) (by simp [upr_app]) (by simp [upr_app]) (by simp [upr_app]) (by simp [upr_app]) (by simp [upr_app]) (by simp [upr_app]) (by simp [upr_app])
  obtain ⟨g3, b1⟩ := onesM (N := N) (by omega) hS hm2
  have hu := used_lt hS
  have hl := mems_len (usedS S)
  generalize hs : upr (upr (upr st 79 g2) 88 g1) 79 g3 = s1 at b1
  have hw : ∀ i, i < 49 → s1 88 i = nI (wS S i) := by
    rw [← hs]
    simp only [upr_app, Nat.reduceEqDiff, if_false, if_true]
    exact a2
  have hfirst : fst0 S = if (mems (usedS S)).length = 0 then 0 else 1 := by
    unfold fst0
    by_cases e : sN S = 0
    · rw [if_pos e, used_ne.mpr e]
      rfl
    · rw [if_neg e, if_neg]
      intro h
      have h0 : 0 < usedS S := by
        rcases Nat.eq_zero_or_pos (usedS S) with q | q
        · exact absurd (used_ne.mp q) e
        · exact q
      obtain ⟨v, hv, hb⟩ := set_pos _ hu h0
      have : v ∈ mems (usedS S) := List.mem_filter.mpr ⟨List.mem_range.mpr hv, hb⟩
      rw [List.eq_nil_of_length_eq_zero h] at this
      cases this
  obtain ⟨g4, c1, c2⟩ := bsum_lp hw (fst0 S) (fun (v35 : Int32) (s36 : St) => lt (1 : Int32) (fun (v37 : Int32) => lp_X8_bound_69 N (nI (mems (usedS S)).length) N v35 v37 s36)) N 0 (s1 90) (by omega) (by omega) (fun i hi => by omega)
  rw [upr_id, nI0] at c1
  have fin : ∃ g' : Nat → Int32, lp_X8_bound_69 N (nI (mems (usedS S)).length) N (nI (fst0 S + sumR (rW (wS S)) 49)) (1 : Int32) (upr s1 90 g4) = some (nI (fst0 S) + bRun ((mems (usedS S)).length - 1) (rW (wS S)) (nI (sumR (rW (wS S)) 49)), upr s1 90 g') := by
    rw [← bRun_add, nI_add, rW_rG]
    rcases Nat.eq_zero_or_pos (mems (usedS S)).length with h0 | h0
    · rw [h0]
      obtain ⟨N', rfl⟩ : ∃ N', N = N' + 1 := ⟨N - 1, by omega⟩
      refine ⟨g4, ?_⟩
      change lpB_X8_bound_69 (N' + 1) (nI 0) (lp_X8_bound_69 (N' + 1) (nI 0) N') _ 1 (upr s1 90 g4) = _
      unfold lpB_X8_bound_69
      rw [if_pos (by decide)]
      rfl
    · exact bnd_lp (w := wS S) hN (by omega) hw (wS_le hS) ((mems (usedS S)).length - 1) N 1 _ (fun _ => false) g4 (by omega) (by omega) (fun i hi => by rw [c2 i hi]; rfl)
  obtain ⟨g5, d1⟩ := fin
  refine ⟨upr s1 90 g5, ?_, ?_⟩
  · unfold F_X8_bound
    rw [a1, bs_s, b1, bd_s, bitsM (by omega) hu, bs_s]
    simp only [lt_eq] at c1 ⊢
    have e0 : nI (fst0 S + sumR (rW (wS S)) 0) = nI (fst0 S) := rfl
    rw [e0] at c1
    rw [hfirst] at *
    by_cases e : (mems (usedS S)).length = 0
    · rw [if_pos (by rw [e]; decide)]
      rw [if_pos e] at *
      exact c1.trans d1
    · rw [if_neg (by rw [L0, nI_leI (by omega) (by omega)]; omega)]
      rw [if_neg e] at *
      exact c1.trans d1
  · intro k hk
    simp only [List.mem_cons, List.not_mem_nil, or_false, not_or] at hk
    obtain ⟨k1, k2, k3⟩ := hk
    rw [upr_app, if_neg k3, ← hs]
    simp only [upr_app, if_neg k1, if_neg k2]
