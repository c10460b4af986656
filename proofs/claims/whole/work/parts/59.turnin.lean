def wkP (S : Sn) (fr : Nat → Nat → Nat) (mem tn : Nat → Bool) : Nat → Nat × Nat
  | 0 => (0, 7)
  | s + 1 => ((wkP S fr mem tn s).1 + (wk fr mem (wkP S fr mem tn s).2 (sq S s (tn s))).1, (wk fr mem (wkP S fr mem tn s).2 (sq S s (tn s))).2)
theorem wkP_congr {S : Sn} {fr : Nat → Nat → Nat} {mem tn tn' : Nat → Bool} : ∀ s, (∀ i, i < s → tn i = tn' i) → wkP S fr mem tn s = wkP S fr mem tn' s := by
  intro s
  induction s with
  | zero => intro _; rfl
  | succ s ih =>
    intro h
    unfold wkP
    rw [ih (fun i hi => h i (by omega)), h s (by omega)]
theorem pyG_s {S : Sn} {fr : Nat → Nat → Nat} {mem may tn : Nat → Bool} {k a : Nat} : pyG S fr mem may tn (k + 1) a = if may (sN S - (k + 1)) then min (ext fr mem (sq S (sN S - (k + 1)) false) (pyG S fr mem may tn k) a) (ext fr mem (sq S (sN S - (k + 1)) true) (pyG S fr mem may tn k) a) else ext fr mem (sq S (sN S - (k + 1)) (tn (sN S - (k + 1)))) (pyG S fr mem may tn k) a := rfl
theorem pyG_pre {S : Sn} {fr : Nat → Nat → Nat} {mem may tn : Nat → Bool} : ∀ s, s ≤ sN S → (∀ i, i < s → may i = false) → pyG S fr mem may tn (sN S) 7 = (wkP S fr mem tn s).1 + pyG S fr mem may tn (sN S - s) (wkP S fr mem tn s).2 := by
  intro s
  induction s with
  | zero => intro _ _; show _ = 0 + pyG S fr mem may tn (sN S - 0) 7; rw [Nat.zero_add, Nat.sub_zero]
  | succ s ih =>
    intro hs hm
    rw [ih (by omega) (fun i hi => hm i (by omega))]
    rw [show sN S - s = (sN S - (s + 1)) + 1 by omega, pyG_s, show sN S - (sN S - (s + 1) + 1) = s by omega, hm s (by omega)]
    unfold ext
    rw [if_neg (by decide)]
    show _ = (wkP S fr mem tn s).1 + _ + _
    rw [Nat.add_assoc]
    rfl
theorem pyG_suf {S : Sn} {fr : Nat → Nat → Nat} {mem may tn may' tn' : Nat → Bool} : ∀ k, (∀ i, sN S - k ≤ i → i < sN S → may i = may' i ∧ (may i = false → tn i = tn' i)) → k ≤ sN S → ∀ a, pyG S fr mem may tn k a = pyG S fr mem may' tn' k a := by
  intro k
  induction k with
  | zero => intro _ _ a; rfl
  | succ k ih =>
    intro h hk a
    have hi := ih (fun i h1 h2 => h i (by omega) h2) (by omega)
    have hf : pyG S fr mem may tn k = pyG S fr mem may' tn' k := funext hi
    obtain ⟨h1, h2⟩ := h (sN S - (k + 1)) (Nat.le_refl _) (by omega)
    rw [pyG_s, pyG_s, hf, ← h1]
    cases hm : may (sN S - (k + 1)) with
    | true => rfl
    | false => rw [h2 hm]
theorem and_pow (n i : Nat) : n &&& 2 ^ i = (n.testBit i).toNat * 2 ^ i := by
  apply Nat.eq_of_testBit_eq
  intro j
  rw [Nat.testBit_and, Nat.testBit_two_pow]
  cases h : n.testBit i with
  | false =>
    simp
    intro h1 h2
    subst h2
    rw [h] at h1
    cases h1
  | true =>
    simp [Nat.testBit_two_pow]
    intro h2
    subst h2
    exact h
theorem clr10 : ∀ x, x < 1024 → ∀ s, s < 10 → nI x &&& (nI (2 ^ s) ^^^ (-1 : Int32)) = nI (x &&& (1023 - 2 ^ s)) := by decide +kernel
theorem msk10 : ∀ s, s < 10 → ∀ i, i < 10 → (1023 - 2 ^ s).testBit i = decide (i ≠ s) := by decide +kernel
theorem py_le_ext {S : Sn} {fr : Nat → Nat → Nat} {mem : Nat → Bool} {mode : Bool} {k a : Nat} : py S fr mem mode (k + 1) a ≤ ext fr mem (sq S (sN S - (k + 1)) false) (py S fr mem mode k) a := by
  rw [py_ext]
  split
  · exact Nat.min_le_left _ _
  · exact Nat.le_refl _
def T5 (st st' : St) : Prop := ∀ k, k ∉ [25, 26, 28, 29, 30, 31] → st' k = st k
theorem tin_lp {S : Sn} {mode : Bool} {set N ac : Nat} {cl : Nat → Nat} (hN : 129 ≤ N) (hS : SnOk S) (hset : set < 128) (hac : ac ∉ [25, 26, 28, 29, 30, 31, 1, 2, 3, 4, 5, 6, 7, 27, 32, 57, 58]) (hkd : kd ac = 9) (hln : ln ac = 7) (hcl7 : ∀ v, v < 7 → cl v ≤ 7) (h7 : cl 7 = 7) (hclm : ∀ v, v < 7 → set.testBit v = true → cl v < 7) : ∀ (k m s U T : Nat) (st : St), s + k = sN S → k < m → U < 1024 → T < 2 ^ s → (∀ i, U.testBit i = (decide (s ≤ i) && (mayB S mode).testBit i)) → ClsRep 1 S st → FarR (sF S) st → st 32 12 = bi mode → (∀ v, v < 7 → st ac v = nI (cl v)) → st (57 + mode.toNat) set = nI (py S (frC (sF S) cl) (fun v => set.testBit v) mode (sN S) 7) → (wkP S (frC (sF S) cl) (fun v => set.testBit v) (fun i => T.testBit i) s).1 + py S (frC (sF S) cl) (fun v => set.testBit v) mode k (wkP S (frC (sF S) cl) (fun v => set.testBit v) (fun i => T.testBit i) s).2 = py S (frC (sF S) cl) (fun v => set.testBit v) mode (sN S) 7 → ∃ st' : St, lp_X3_turnedIn_11 N (nI set) ac m (nI U) (nI T) (nI s) st = some (nI (T ||| tg S (frC (sF S) cl) (fun v => set.testBit v) mode k (wkP S (frC (sF S) cl) (fun v => set.testBit v) (fun i => T.testBit i) s).2), st') ∧ T5 st st' := by
  have hn := hS.1
  have hmm : mode.toNat < 2 := by cases mode <;> decide
  simp only [List.mem_cons, List.not_mem_nil, or_false, not_or] at hac
  intro k
  induction k with
  | zero =>
    intro m s U T st h1 h2 hU hT hUb hc hf h12 hcs hfl hinv
    obtain ⟨m', rfl⟩ : ∃ m', m = m' + 1 := ⟨m - 1, by omega⟩
    refine ⟨st, ?_, fun _ _ => rfl⟩
    change lpB_X3_turnedIn_11 N (nI set) ac (lp_X3_turnedIn_11 N (nI set) ac m') (nI U) (nI T) (nI s) st = _
    unfold lpB_X3_turnedIn_11
    rw [hc.1, if_pos (nI_le (by omega) (by omega))]
    show some (nI T, st) = some (nI (T ||| 0), st)
    rw [Nat.or_zero]
  | succ k ih =>
    intro m s U T st h1 h2 hU hT hUb hc hf h12 hcs hfl hinv
    obtain ⟨m', rfl⟩ : ∃ m', m = m' + 1 := ⟨m - 1, by omega⟩
    change ∃ st' : St, lpB_X3_turnedIn_11 N (nI set) ac (lp_X3_turnedIn_11 N (nI set) ac m') (nI U) (nI T) (nI s) st = _ ∧ _
    unfold lpB_X3_turnedIn_11
    have hs : s < sN S := by omega
    have hsk : sN S - (k + 1) = s := by omega
    have hs10 : s < 10 := by omega
    have hT1024 : T < 1024 := Nat.lt_of_lt_of_le hT (Nat.le_trans (Nat.pow_le_pow_right (n := 2) (by decide) (show s ≤ 10 by omega)) (by decide))
    have hTs : T.testBit s = false := Nat.testBit_lt_two_pow hT
    rw [hc.1, if_neg (nI_ge hs (by omega)), shl1 s (by omega), lt_eq, nI_and, and_pow]
    generalize hq : wkP S (frC (sF S) cl) (fun v => set.testBit v) (fun i => T.testBit i) s = q at hinv
    have hstr : wkP S (frC (sF S) cl) (fun v => set.testBit v) (fun i => T.testBit i) (s + 1) = (q.1 + (wk (frC (sF S) cl) (fun v => set.testBit v) q.2 (sq S s false)).1, (wk (frC (sF S) cl) (fun v => set.testBit v) q.2 (sq S s false)).2) := by
      unfold wkP
      rw [hq, hTs]
    have hle := py_le_ext (S := S) (fr := frC (sF S) cl) (mem := fun v => set.testBit v) (mode := mode) (k := k) (a := q.2)
    rw [hsk] at hle
    have hUs : U.testBit s = (mayB S mode).testBit s := by rw [hUb]; simp
    have hnx : ∀ U' : Nat, (∀ i, U'.testBit i = (decide (i ≠ s) && U.testBit i)) → ∀ i, U'.testBit i = (decide (s + 1 ≤ i) && (mayB S mode).testBit i) := by
      intro U' hU' i
      rw [hU' i, hUb i]
      by_cases e : i = s
      · simp [e]
        intro h
        omega
      · by_cases e2 : s ≤ i
        · have : s + 1 ≤ i := by omega
          simp [e, e2, this]
        · have : ¬ s + 1 ≤ i := by omega
          simp [e2, this]
    rw [tg_s, hsk]
    cases hb : U.testBit s with
    | false =>
      rw [show (false.toNat * 2 ^ s) = 0 by simp, if_pos (by rfl), lt_eq, nI_1]
      have hext : ext (frC (sF S) cl) (fun v => set.testBit v) (sq S s false) (py S (frC (sF S) cl) (fun v => set.testBit v) mode k) q.2 = py S (frC (sF S) cl) (fun v => set.testBit v) mode (k + 1) q.2 := by
        rw [py_ext, hsk, if_neg]
        rw [hUs, mayB_bit hs] at hb
        rw [hb]
        decide
      rw [if_pos hext]
      have := ih m' (s + 1) U T st (by omega) (by omega) hU (Nat.lt_of_lt_of_le hT (Nat.pow_le_pow_right (by decide) (by omega))) (hnx U (fun i => by
        by_cases e : i = s
        · rw [e, hb]; simp
        · simp [e])) hc hf h12 hcs hfl (by
        rw [hstr]
        simp only
        rw [← hinv, ← hext]
        unfold ext
        omega)
      rw [hstr] at this
      exact this
    | true =>
      rw [show (true.toNat * 2 ^ s) = 2 ^ s by simp, if_neg (nI_ne0 (Nat.two_pow_pos s) (Nat.lt_of_le_of_lt (Nat.pow_le_pow_right (n := 2) (by decide) (show s ≤ 10 by omega)) (by decide))), clr10 U hU s hs10, lt_eq]
      generalize hU' : U &&& (1023 - 2 ^ s) = U'
      have hUlt : U' < 1024 := by rw [← hU']; exact Nat.lt_of_le_of_lt Nat.and_le_left hU
      have hU'b : ∀ i, U'.testBit i = (decide (i ≠ s) && U.testBit i) := by
        intro i
        rw [← hU', Nat.testBit_and]
        by_cases hi : i < 10
        · rw [msk10 s hs10 i hi, Bool.and_comm]
        · have : U.testBit i = false := Nat.testBit_lt_two_pow (Nat.lt_of_lt_of_le hU (Nat.pow_le_pow_right (n := 2) (by decide) (show 10 ≤ i by omega)))
          rw [this]
          simp
      have hU'm := hnx U' hU'b
      obtain ⟨s1, a1, a2, a3⟩ := traceX (N := N) (set := set) (may := U') (tn := T) hN hS hset (by omega) (by omega) hc
      obtain ⟨g, c1⟩ := coX (N := N) (a := ac) (cl := cl) (st := s1) (by omega) hkd (by omega) (by omega) (fun v hv => ⟨by rw [a3 ac (by omega) (by omega) (by omega) (by omega) (by omega)]; exact hcs v hv, hcl7 v hv⟩) h7 (by
        intro x y hx hy
        rw [a3 27 (by decide) (by decide) (by decide) (by decide) (by decide)]
        exact hf x y hx hy) a2 (run_fk hS _ (Nat.le_refl _)) (run_len hS) (run_last hS _ (Nat.le_refl _))
      have hcost : tCost (frL (sF S) cl) (tRun S (fun v => set.testBit v) (fun v => U'.testBit v) (fun v => T.testBit v) (sN S)) = q.1 + ext (frC (sF S) cl) (fun v => set.testBit v) (sq S s false) (py S (frC (sF S) cl) (fun v => set.testBit v) mode k) q.2 := by
        rw [cost_val hS (frL_sym _ _) (by
          intro i hi hm
          rw [hU'm i] at hm
          simp only [Bool.and_eq_true] at hm
          have := hm.2
          rw [mayB_bit hi] at this
          simp only [Bool.and_eq_true] at this
          exact canT_ok this.2)]
        rw [pyG_congr (fr' := frC (sF S) cl) (may' := fun v => U'.testBit v) (tn' := fun v => T.testBit v) hS (fun a v ha hv ma mv => frL_C (hclm a ha ma) (hclm v hv mv)) (fun _ _ => rfl) (fun _ _ => rfl) (sN S) 7 (Nat.le_refl _) (Or.inl rfl)]
        rw [pyG_pre (s + 1) (by omega) (by
          intro i hi
          rw [hU'm i]
          have : ¬ s + 1 ≤ i := by omega
          simp [this]), hstr, show sN S - (s + 1) = k by omega]
        have hsuf : ∀ y, pyG S (frC (sF S) cl) (fun v => set.testBit v) (fun v => U'.testBit v) (fun v => T.testBit v) k y = py S (frC (sF S) cl) (fun v => set.testBit v) mode k y := by
          intro y
          rw [py_pyG]
          refine pyG_suf k ?_ (by omega) y
          intro i i1 i2
          have e1 : s + 1 ≤ i := by omega
          constructor
          · rw [hU'm i, mayB_bit i2]
            simp [e1]
          · intro _
            exact Nat.testBit_lt_two_pow (Nat.lt_of_lt_of_le hT (Nat.pow_le_pow_right (by decide) (by omega)))
        rw [hsuf]
        unfold ext
        exact Nat.add_assoc _ _ _
      have e1 := py_le (S := S) (mem := fun v => set.testBit v) (mode := mode) (frC_le (sF S) cl) (sN S) 7
      have e2 := ext_le (mem := fun v => set.testBit v) (frC_le (sF S) cl) (P := py S (frC (sF S) cl) (fun v => set.testBit v) mode k) (b := 3 * k) (fun y => py_le (frC_le _ _) k y) (sq S s false) q.2
      have e3 := sq_len S s false
      have k12 : (upr s1 31 g) 32 12 = bi mode := by rw [upr_app, if_neg (by decide), a3 32 (by decide) (by decide) (by decide) (by decide) (by decide)]; exact h12
      have kfl : (upr s1 31 g) (57 + mode.toNat) set = nI (py S (frC (sF S) cl) (fun v => set.testBit v) mode (sN S) 7) := by rw [upr_app, if_neg (by omega), a3 _ (by omega) (by omega) (by omega) (by omega) (by omega)]; exact hfl
      have t5 : T5 st (upr s1 31 g) := by
        intro j hj
        simp only [List.mem_cons, List.not_mem_nil, or_false, not_or] at hj
        rw [upr_app, if_neg (by omega), a3 j (by omega) (by omega) (by omega) (by omega) (by omega)]
      rw [a1, bs_s, c1, bd_s, k12, inb_bi, ck_t, ck_in hset (by decide), cl_bi, nI_clamp (by omega), Nat.one_mul, kfl, hcost]
      have hc' : ClsRep 1 S (upr s1 31 g) := hc.kept (t5 _ (by decide)) (t5 _ (by decide)) (t5 _ (by decide)) (t5 _ (by decide)) (t5 _ (by decide)) (t5 _ (by decide)) (t5 _ (by decide))
      have hf' : FarR (sF S) (upr s1 31 g) := by
        intro x y hx hy
        rw [t5 27 (by decide)]
        exact hf x y hx hy
      have hcs' : ∀ v, v < 7 → (upr s1 31 g) ac v = nI (cl v) := by
        intro v hv
        rw [t5 ac (by simp only [List.mem_cons, List.not_mem_nil, or_false, not_or]; omega)]
        exact hcs v hv
      by_cases hx : ext (frC (sF S) cl) (fun v => set.testBit v) (sq S s false) (py S (frC (sF S) cl) (fun v => set.testBit v) mode k) q.2 = py S (frC (sF S) cl) (fun v => set.testBit v) mode (k + 1) q.2
      · rw [if_pos ((nI_leI (by omega) (by omega)).mpr (by omega)), if_pos hx, lt_eq, nI_1]
        obtain ⟨st', r1, r2⟩ := ih m' (s + 1) U' T (upr s1 31 g) (by omega) (by omega) hUlt (Nat.lt_of_lt_of_le hT (Nat.pow_le_pow_right (by decide) (by omega))) hU'm hc' hf' k12 hcs' kfl (by
          rw [hstr]
          simp only
          rw [← hinv, ← hx]
          unfold ext
          omega)
        rw [hstr] at r1
        exact ⟨st', r1, fun j hj => by rw [r2 j hj, t5 j hj]⟩
      · rw [if_neg (by rw [nI_leI (by omega) (by omega)]; omega), if_neg hx, lt_eq, lt_eq, nI_or, nI_1]
        have hturn : wkP S (frC (sF S) cl) (fun v => set.testBit v) (fun i => (T ||| 2 ^ s).testBit i) (s + 1) = (q.1 + (wk (frC (sF S) cl) (fun v => set.testBit v) q.2 (sq S s true)).1, (wk (frC (sF S) cl) (fun v => set.testBit v) q.2 (sq S s true)).2) := by
          unfold wkP
          rw [wkP_congr (tn' := fun i => T.testBit i) s (by
            intro i hi
            rw [Nat.testBit_or, Nat.testBit_two_pow, decide_eq_false (by omega), Bool.or_false]), hq]
          rw [show (T ||| 2 ^ s).testBit s = true by rw [Nat.testBit_or, Nat.testBit_two_pow]; simp]
        have hmin : py S (frC (sF S) cl) (fun v => set.testBit v) mode (k + 1) q.2 = ext (frC (sF S) cl) (fun v => set.testBit v) (sq S s true) (py S (frC (sF S) cl) (fun v => set.testBit v) mode k) q.2 := by
          rw [py_ext, hsk] at hx ⊢
          rw [hUs, mayB_bit hs] at hb
          rw [hb, if_pos rfl] at hx ⊢
          omega
        obtain ⟨st', r1, r2⟩ := ih m' (s + 1) U' (T ||| 2 ^ s) (upr s1 31 g) (by omega) (by omega) hUlt (Nat.or_lt_two_pow (Nat.lt_of_lt_of_le hT (Nat.pow_le_pow_right (by decide) (by omega))) (Nat.pow_lt_pow_right (by decide) (by omega))) hU'm hc' hf' k12 hcs' kfl (by
          rw [hturn]
          simp only
          rw [← hinv, hmin]
          unfold ext
          omega)
        rw [hturn, Nat.or_assoc] at r1
        exact ⟨st', r1, fun j hj => by rw [r2 j hj, t5 j hj]⟩
theorem tinX {S : Sn} {mode : Bool} {set N ac : Nat} {cl : Nat → Nat} {st : St} (hN : 129 ≤ N) (hS : SnOk S) (hset : set < 128) (hac : ac ∉ [25, 26, 28, 29, 30, 31, 1, 2, 3, 4, 5, 6, 7, 27, 32, 57, 58]) (hkd : kd ac = 9) (hln : ln ac = 7) (hcl7 : ∀ v, v < 7 → cl v ≤ 7) (h7 : cl 7 = 7) (hclm : ∀ v, v < 7 → set.testBit v = true → cl v < 7) (hc : ClsRep 1 S st) (hf : FarR (sF S) st) (h12 : st 32 12 = bi mode) (h13 : st 32 13 = nI (mayB S mode)) (hcs : ∀ v, v < 7 → st ac v = nI (cl v)) (hfl : st (57 + mode.toNat) set = nI (py S (frC (sF S) cl) (fun v => set.testBit v) mode (sN S) 7)) : ∃ st' : St, F_X3_turnedIn N (nI set) ac st = some (nI (tg S (frC (sF S) cl) (fun v => set.testBit v) mode (sN S) 7), st') ∧ T5 st st' := by
  obtain ⟨st', r1, r2⟩ := tin_lp (mode := mode) (set := set) (cl := cl) (ac := ac) hN hS hset hac hkd hln hcl7 h7 hclm (sN S) N 0 (mayB S mode) 0 st (by omega) (by have := hS.1; omega) (mayB_lt hS mode) (by decide) (fun i => by simp) hc hf h12 hcs hfl (by
    show 0 + py S _ _ mode (sN S) 7 = _
    rw [Nat.zero_add])
  refine ⟨st', ?_, r2⟩
  unfold F_X3_turnedIn
  rw [ck_d hkd, lt_eq, lt_eq, lt_eq, h13]
  rw [Nat.zero_or] at r1
  exact r1
