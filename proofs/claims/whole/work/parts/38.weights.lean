-- weights
def wStep (q : (Nat → Nat) × Nat) (v : Nat) : (Nat → Nat) × Nat := (if q.2 = 7 ∨ q.2 = v then q.1 else tPair q.2 v q.1, v)
def wF (l : List Nat) : (Nat → Nat) × Nat := l.foldl wStep (fun _ => 0, 7)
def wS (S : Sn) : Nat → Nat := (wF (sl S 0 (sN S))).1
theorem wF_add (l : List Nat) (v : Nat) : wF (l ++ [v]) = wStep (wF l) v := by unfold wF; rw [List.foldl_append]; rfl
theorem wStep2 (q : (Nat → Nat) × Nat) (v : Nat) : wStep (wStep q v) v = wStep q v := by unfold wStep; simp
theorem bit127 : ∀ v, v < 7 → (127 : Nat).testBit v = true := by decide
theorem pass_w {q : (Nat → Nat) × Nat} {v : Nat} (hv : v < 7) : tPass (fun v => (127 : Nat).testBit v) v (q.1, [], q.2, false) = ((wStep q v).1, [], (wStep q v).2, false) := by
  unfold tPass wStep
  simp [bit127 v hv]
theorem run_w {S : Sn} (hS : SnOk S) : ∀ s, s ≤ sN S → tRun S (fun v => (127 : Nat).testBit v) (fun v => (0 : Nat).testBit v) (fun v => (0 : Nat).testBit v) s = ((wF (sl S 0 s)).1, [], (wF (sl S 0 s)).2, false) := by
  intro s
  induction s with
  | zero => intro _; rfl
  | succ s ih =>
    intro hs
    have hb := hS.2.1 s (by omega)
    show tStm S _ _ _ s (tRun S _ _ _ s) = _
    rw [ih (by omega)]
    unfold tStm
    rw [if_neg (by simp), if_neg (by simp), pass_w hb.2.2.1, pass_w hb.2.2.2.1, pass_w hb.2.1]
    have e : wF (sl S 0 (s + 1)) = wStep (wStep (wStep (wF (sl S 0 s)) (sL S s)) (sR S s)) (sT S s) := by
      show wF (sl S 0 s ++ sq S s _) = _
      unfold sq
      by_cases hk : sK S s = 0
      · rw [if_pos hk, hb.2.2.2.2 hk, wStep2, show [sL S s, sT S s] = [sL S s] ++ [sT S s] from rfl, ← List.append_assoc, wF_add, wF_add]
      · rw [if_neg hk, if_neg (by simp), show [sL S s, sR S s, sT S s] = [sL S s] ++ [sR S s] ++ [sT S s] from rfl, ← List.append_assoc, ← List.append_assoc, wF_add, wF_add, wF_add]
    rw [e]
theorem tPair_le (u v : Nat) (b : Nat → Nat) (i : Nat) : tPair u v b i ≤ b i + 2 := by unfold tPair; split <;> split <;> omega
theorem wF_le (i : Nat) : ∀ (l : List Nat) (q : (Nat → Nat) × Nat), (l.foldl wStep q).1 i ≤ q.1 i + 2 * l.length := by
  intro l
  induction l with
  | nil => intro q; simp
  | cons v vs ih =>
    intro q
    rw [List.foldl_cons, List.length_cons]
    refine Nat.le_trans (ih _) ?_
    have : (wStep q v).1 i ≤ q.1 i + 2 := by
      unfold wStep
      simp only
      split
      · omega
      · exact tPair_le _ _ _ _
    omega
theorem wS_le {S : Sn} (hS : SnOk S) (i : Nat) : wS S i ≤ 60 := by
  have h1 := wF_le i (sl S 0 (sN S)) (fun _ => 0, 7)
  have h2 := sl_len S 0 (sN S)
  have h3 := hS.1
  unfold wS wF
  simp only at h1
  omega
theorem take_s {l : List Nat} {k : Nat} (h : k < l.length) : l.take (k + 1) = l.take k ++ [l.getD k 0] := by
  rw [List.take_add_one, List.getD_eq_getElem?_getD, List.getElem?_eq_getElem h]
  rfl
theorem wF_last {l : List Nat} {k : Nat} (h1 : 1 ≤ k) (h : k ≤ l.length) : (wF (l.take k)).2 = l.getD (k - 1) 0 := by
  obtain ⟨j, rfl⟩ : ∃ j, k = j + 1 := ⟨k - 1, by omega⟩
  rw [take_s (by omega), wF_add]
  rfl
theorem weightsX {S : Sn} {st : St} {N : Nat} (hN : 129 ≤ N) (hS : SnOk S) (hc : ClsRep 1 S st) : ∃ st' : St, F_X7_weights N st = some st' ∧ (∀ i, i < 49 → st' 26 i = nI (wS S i)) ∧ Fr5 st st' := by
  obtain ⟨sa, a1, a2, a3⟩ := traceX (N := N) (set := 127) (may := 0) (tn := 0) hN hS (by decide) (by decide) (by decide) hc
  refine ⟨sa, ?_, ?_, a3⟩
  · unfold F_X7_weights
    rw [L127, L0, a1]
    rfl
  · intro i hi
    rw [a2.2.1 i hi, run_w hS _ (Nat.le_refl _)]
    rfl
theorem lwM_z {st : St} (K : St → Option St) : ∀ (m i : Nat) (g : Nat → Int32), i ≤ 49 → 49 - i < m → (∀ c, c < i → g c = 0) → ∃ g' : Nat → Int32, lp_X8_layWeights_2 K m (nI i) (upr st 88 g) = K (upr st 88 g') ∧ ∀ c, c < 49 → g' c = 0 := by
  intro m
  induction m with
  | zero => intro i g h1 h2; omega
  | succ m ih =>
    intro i g h1 h2 h3
    change ∃ g' : Nat → Int32, lpB_X8_layWeights_2 K (lp_X8_layWeights_2 K m) (nI i) (upr st 88 g) = _ ∧ _
    unfold lpB_X8_layWeights_2
    by_cases hi : i = 49
    · subst hi
      rw [if_pos (by decide)]
      exact ⟨g, rfl, h3⟩
    · rw [if_neg (by rw [L49]; exact nI_ge (by omega) (by decide))]
      simp (disch := omega) only [lt_eq, ck_in, nI_clamp, nI_1, up_upr]
      exact ih (i + 1) _ (by omega) (by omega) (by
        intro c hc
        rw [upd_app]
        split
        · rfl
        · exact h3 c (by omega))
theorem lwM_lp {l : List Nat} (hl : l.length ≤ 30) (h7 : ∀ v, v ∈ l → v < 7) {st : St} (hg : Ln l (st 79)) : ∀ (m k : Nat) (g : Nat → Int32), 1 ≤ k → l.length - k < m → k ≤ 31 → (∀ i, i < 49 → g i = nI ((wF (l.take k)).1 i)) → ∃ g' : Nat → Int32, lp_X8_layWeights_29 (nI l.length) m (nI k) (upr st 88 g) = some (upr st 88 g') ∧ ∀ i, i < 49 → g' i = nI ((wF l).1 i) := by
  intro m
  induction m with
  | zero => intro k g h1 h2; omega
  | succ m ih =>
    intro k g h1 h2 h31 h3
    change ∃ g' : Nat → Int32, lpB_X8_layWeights_29 (nI l.length) (lp_X8_layWeights_29 (nI l.length) m) (nI k) (upr st 88 g) = _ ∧ _
    unfold lpB_X8_layWeights_29
    by_cases hk : l.length ≤ k
    · rw [if_pos (nI_le hk (by omega))]
      refine ⟨g, rfl, ?_⟩
      rw [List.take_of_length_le hk] at h3
      exact h3
    · rw [if_neg (nI_ge (by omega) (by omega))]
      have hu := h7 _ (getD_mem (l := l) (i := k - 1) (by omega))
      have hv := h7 _ (getD_mem (l := l) (i := k) (by omega))
      have e1 : ∀ g, (upr st 88 g) 79 k = nI (l.getD k 0) := fun g => by rw [upr_app, if_neg (by decide)]; exact hg k (by omega)
      have e2 : ∀ g, (upr st 88 g) 79 (k - 1) = nI (l.getD (k - 1) 0) := fun g => by rw [upr_app, if_neg (by decide)]; exact hg (k - 1) (by omega)
      have e0 : nI k - 1 = nI (k - 1) := pk_sub (a := k) (b := 1) h1
      have hw := wF_last (l := l) h1 (by omega)
      have ht : wF (l.take (k + 1)) = wStep (wF (l.take k)) (l.getD k 0) := by rw [take_s (by omega), wF_add]
      generalize l.getD k 0 = v at *
      generalize l.getD (k - 1) 0 = u at *
      simp (disch := omega) only [lt_eq, e0, ck_in, nI_clamp, e1, e2, L7, pk_mul, nI_add, nI_1, up_upr]
      by_cases he : v = u
      · rw [if_pos (by rw [he])]
        refine ih (k + 1) g (by omega) (by omega) (by omega) ?_
        intro i hi
        rw [ht, h3 i hi]
        unfold wStep
        simp [hw, he]
      · rw [if_neg (by rw [nI_eq (by omega) (by omega)]; exact he)]
        refine ih (k + 1) _ (by omega) (by omega) (by omega) ?_
        intro i hi
        rw [ht]
        unfold wStep
        have h7u : u ≠ 7 := by omega
        have hne : u ≠ v := fun q => he q.symm
        simp only [hw, h7u, hne, or_self, if_false, upr_app, if_true]
        simp only [upd_app]
        unfold tPair
        have ha := h3 (7 * v + u) (by omega)
        have hb := h3 (7 * u + v) (by omega)
        have hc := h3 i hi
        by_cases i1 : i = 7 * u + v
        · have i2 : i ≠ 7 * v + u := by omega
          subst i1
          rw [if_pos rfl, if_neg i2, hb, nI_1]
          rw [if_neg (by omega), if_pos (by omega)]
          congr 1
          omega
        · rw [if_neg i1]
          by_cases i2 : i = 7 * v + u
          · subst i2
            rw [if_pos rfl, ha, nI_1, if_pos (by omega), if_neg (by omega)]
            congr 1
            omega
          · rw [if_neg i2, hc, if_neg (by omega), if_neg (by omega)]
            congr 1
            omega
theorem weightsM {S : Sn} {st : St} {N : Nat} (hN : 129 ≤ N) (hS : SnOk S) (hm : ModRep S st) : ∃ g1 g2 : Nat → Int32, F_X8_layWeights N st = some (upr (upr st 79 g2) 88 g1) ∧ (∀ i, i < 49 → g1 i = nI (wS S i)) := by
  obtain ⟨ga, a1, a2⟩ := lwM_z (st := st) (fun (s24 : St) => bd (F_X8_layLine N (0 : Int32) s24) (fun (r25 : Int32) (s26 : St) => lt r25 (fun (v27 : Int32) => lt (1 : Int32) (fun (v28 : Int32) => lp_X8_layWeights_29 v27 N v28 s26)))) N 0 (st 88) (by omega) (by omega) (fun c hc => by omega)
  have hm2 : ModRep S (upr st 88 ga) := hm.kept (by simp [upr_app]) (by simp [upr_app]) (by simp [upr_app]) (by simp [upr_app]) (by simp [upr_app]) (by simp [upr_app]) (by simp [upr_app]) (by simp [upr_app])
  obtain ⟨gb, b1, b2⟩ := lineM (N := N) (t := 0) (by omega) hS hm2 (by decide)
  have hsw : upr (upr st 88 ga) 79 gb = upr (upr st 79 gb) 88 ga := by
    funext q
    simp only [upr_app]
    by_cases h : q = 79
    · rw [if_pos h, if_pos h, if_neg (by omega)]
    · rw [if_neg h, if_neg h]
  obtain ⟨gc, c1, c2⟩ := lwM_lp (l := sl S 0 (sN S)) (by have := sl_len S 0 (sN S); have := hS.1; omega) (fun v hv => sl_lt hS hv) (st := upr st 79 gb) (by rw [upr_app, if_pos rfl]; exact b2) N 1 ga (by omega) (by have := sl_len S 0 (sN S); have := hS.1; omega) (by omega) (by
    intro i hi
    rw [a2 i hi]
    cases hq : sl S 0 (sN S) with
    | nil => rfl
    | cons x xs => simp [wF, wStep]; rfl)
  refine ⟨gc, gb, ?_, c2⟩
  unfold F_X8_layWeights
  rw [upr_id, nI0] at a1
  rw [lt_eq, a1, L0, b1, bd_s, lt_eq, lt_eq, hsw, L1, c1]
theorem ok_weight {st : St} {N : Nat} (hN : 129 ≤ N) (hI : Inv st) (v1 v2 : Int32) : Ok (F_X7_weight N v1 v2) (F_X8_weight N v1 v2) st := by
  have hI0 := hI
  obtain ⟨S, kp, SI, hI⟩ := hI
  have hS := hI.1
  rcases var_c v1 with ⟨a, ha, rfl, h1, h2⟩ | ⟨h1, h2⟩
  · rcases var_c v2 with ⟨b, hb, rfl, h3, h4⟩ | ⟨h3, h4⟩
    · obtain ⟨sa, a1, a2, a3⟩ := weightsX (N := N) hN hS hI.2.1
      have hIb : InvS S kp SI sa := hI.look (by rw [a3 70 (by decide) (by decide) (by decide) (by decide) (by decide)]) (fun k hk => a3.out hk)
      obtain ⟨g1, g2, b1, b2⟩ := weightsM (N := N) hN hS hIb.2.2.1
      refine ⟨nI (wS S (a * 7 + b)), sa, upr (upr sa 79 g2) 88 g1, ?_, ?_, S, kp, SI, ?_⟩
      · unfold F_X7_weight
        rw [h1, bs_s, if_neg e10, h3, bs_s, if_neg e10, a1, bs_s]
        simp (disch := omega) only [L7, pk_mul, nI_add, ck_in, nI_clamp, a2]
      · unfold F_X8_weight
        rw [h2, bs_s, if_neg e10, h4, bs_s, if_neg e10, b1, bs_s]
        simp (disch := omega) only [L7, pk_mul, nI_add, ck_in, nI_clamp]
        rw [upr_app, if_pos rfl, b2 _ (by omega), Nat.mul_comm]
      · exact hIb.look (by simp [upr_app]) (fun k hk => by rw [upr_app, if_neg (by rintro rfl; exact hk (by decide)), upr_app, if_neg (by rintro rfl; exact hk (by decide))])
    · refine Ok.same hI0 (-1) ?_ ?_
      · unfold F_X7_weight
        rw [h1, bs_s, if_neg e10, h3, bs_s, if_pos rfl]
      · unfold F_X8_weight
        rw [h2, bs_s, if_neg e10, h4, bs_s, if_pos rfl]
  · refine Ok.same hI0 (-1) ?_ ?_
    · unfold F_X7_weight
      rw [h1, bs_s, if_pos rfl]
    · unfold F_X8_weight
      rw [h2, bs_s, if_pos rfl]
