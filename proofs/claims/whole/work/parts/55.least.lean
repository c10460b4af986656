theorem twins_lp {F n c c' : Nat} {st : St} (hn : n ≤ 7) (hc : c < n) (hc' : c' < n) (hf : FarR F st) : ∀ (m d : Nat), d ≤ n → n - d < m → (∀ i, i < d → i ≠ c → i ≠ c' → fz F i c' = fz F i c) → ∃ b : Bool, lp_X6_areTwins_3 (nI c') (nI c) (nI n) st m (nI d) = some (bi b) ∧ (b = true → ∀ i, i < n → i ≠ c → i ≠ c' → fz F i c' = fz F i c) := by
  intro m
  induction m with
  | zero => intro d h1 h2; omega
  | succ m ih =>
    intro d h1 h2 h3
    change ∃ b : Bool, lpB_X6_areTwins_3 (nI c') (nI c) (nI n) st (lp_X6_areTwins_3 (nI c') (nI c) (nI n) st m) (nI d) = some (bi b) ∧ _
    unfold lpB_X6_areTwins_3
    by_cases hd : d = n
    · rw [if_pos (by rw [hd]; exact nI_le (Nat.le_refl _) (by omega))]
      rw [hd] at h3
      exact ⟨true, rfl, fun _ => h3⟩
    · rw [if_neg (nI_ge (by omega) (by omega))]
      have ext : (d ≠ c → d ≠ c' → fz F d c' = fz F d c) → ∀ i, i < d + 1 → i ≠ c → i ≠ c' → fz F i c' = fz F i c := by
        intro h i hi a1 a2
        by_cases e : i = d
        · rw [e] at a1 a2 ⊢; exact h a1 a2
        · exact h3 i (by omega) a1 a2
      by_cases e1 : d = c'
      · rw [if_pos (by rw [e1]), lt_eq, nI_1]
        exact ih (d + 1) (by omega) (by omega) (ext (fun _ q => absurd e1 q))
      · rw [if_neg (by rw [nI_eq (by omega) (by omega)]; exact e1)]
        by_cases e2 : d = c
        · rw [if_pos (by rw [e2]), lt_eq, nI_1]
          exact ih (d + 1) (by omega) (by omega) (ext (fun q => absurd e2 q))
        · rw [if_neg (by rw [nI_eq (by omega) (by omega)]; exact e2)]
          have f1 := hf d c' (by omega) (by omega)
          have f2 := hf d c (by omega) (by omega)
          have b1 := fz_le F d c'
          have b2 := fz_le F d c
          simp (disch := omega) only [L8, pk_mul, nI_add, ck_in, nI_clamp, f1, f2]
          by_cases e3 : fz F d c' = fz F d c
          · rw [if_pos (by rw [e3]), lt_eq, nI_1]
            exact ih (d + 1) (by omega) (by omega) (ext (fun _ _ => e3))
          · rw [if_neg (by rw [nI_eq (by omega) (by omega)]; exact e3)]
            exact ⟨false, rfl, fun h => by cases h⟩
theorem twin_in {F n c N : Nat} {st : St} (hN : 129 ≤ N) (hn : n ≤ 7) (hc : c < n) (hf : FarR F st) (h4 : st 33 4 = nI n) (K : St → Option St) : ∀ (m q t : Nat) (g : Nat → Int32), q ≤ c → c - q < m → g c = nI t → t < 128 → (∀ c', t.testBit c' = true → c' < q ∧ ∀ d, d < n → d ≠ c → d ≠ c' → fz F d c' = fz F d c) → ∃ (g' : Nat → Int32) (t' : Nat), lp_X1_findTwins_19 N (nI c) K m (nI q) (upr st 36 g) = K (upr st 36 g') ∧ g' c = nI t' ∧ t' < 128 ∧ (∀ c', t'.testBit c' = true → c' < c ∧ ∀ d, d < n → d ≠ c → d ≠ c' → fz F d c' = fz F d c) ∧ ∀ i, i ≠ c → g' i = g i := by
  intro m
  induction m with
  | zero => intro q t g h1 h2; omega
  | succ m ih =>
    intro q t g h1 h2 h3 h5 h6
    change ∃ (g' : Nat → Int32) (t' : Nat), lpB_X1_findTwins_19 N (nI c) K (lp_X1_findTwins_19 N (nI c) K m) (nI q) (upr st 36 g) = _ ∧ _
    unfold lpB_X1_findTwins_19
    by_cases hq : q = c
    · rw [if_pos (by rw [hq]; exact nI_le (Nat.le_refl _) (by omega))]
      rw [hq] at h6
      exact ⟨g, t, rfl, h3, h5, h6, fun _ _ => rfl⟩
    · rw [if_neg (nI_ge (by omega) (by omega))]
      have e4 : (upr st 36 g) 33 4 = nI n := by rw [upr_app, if_neg (by decide)]; exact h4
      have hf2 : FarR F (upr st 36 g) := by
        intro x y hx hy
        rw [upr_app, if_neg (by decide)]
        exact hf x y hx hy
      obtain ⟨b, b1, b2⟩ := twins_lp hn hc (show q < n by omega) hf2 N 0 (by omega) (by omega) (fun i hi => by omega)
      have b3 : F_X6_areTwins N (nI q) (nI c) ((upr st 36 g) 33 4) (upr st 36 g) = some (bi b) := by
        unfold F_X6_areTwins
        rw [lt_eq, e4]
        exact b1
      rw [b3, bs_s]
      cases b with
      | false =>
        rw [if_pos (by rfl), lt_eq, nI_1]
        refine ih (q + 1) t g (by omega) (by omega) h3 h5 ?_
        intro c' hb
        have := h6 c' hb
        exact ⟨by omega, this.2⟩
      | true =>
        have r36 : (upr st 36 g) 36 c = nI t := by rw [upr_app, if_pos rfl]; exact h3
        have hsh := shl1 q (by omega)
        rw [if_neg (by decide)]
        simp (disch := omega) only [lt_eq, ck_in, nI_clamp, r36, hsh, nI_or, nI_1, up_upr]
        obtain ⟨g', t', a1, a2, a3, a4, a5⟩ := ih (q + 1) (t ||| 2 ^ q) (upd g c (nI (t ||| 2 ^ q))) (by omega) (by omega) (by rw [upd_app, if_pos rfl]) (or128 h5 (pow7 (by omega))) (by
          intro c' hb
          rw [Nat.testBit_or, Nat.testBit_two_pow, Bool.or_eq_true, decide_eq_true_eq] at hb
          rcases hb with hb | hb
          · have := h6 c' hb
            exact ⟨by omega, this.2⟩
          · subst hb
            exact ⟨by omega, b2 rfl⟩)
        refine ⟨g', t', a1, a2, a3, a4, fun i hi => ?_⟩
        rw [a5 i hi, upd_app, if_neg hi]
theorem twin_out {F n N : Nat} {st : St} (hN : 129 ≤ N) (hn : n ≤ 7) (hf : FarR F st) (h4 : st 33 4 = nI n) : ∀ (m c : Nat) (tw : Nat → Nat) (g : Nat → Int32), c ≤ n → n - c < m → (∀ i, i < c → g i = nI (tw i) ∧ tw i < 128 ∧ ∀ c', (tw i).testBit c' = true → c' < i ∧ ∀ d, d < n → d ≠ i → d ≠ c' → fz F d c' = fz F d i) → ∃ (g' : Nat → Int32) (tw' : Nat → Nat), lp_X1_findTwins_2 N m (nI c) (upr st 36 g) = some (upr st 36 g') ∧ (∀ i, i < n → g' i = nI (tw' i)) ∧ TwOk F n tw' := by
  intro m
  induction m with
  | zero => intro c tw g h1 h2; omega
  | succ m ih =>
    intro c tw g h1 h2 h3
    change ∃ (g' : Nat → Int32) (tw' : Nat → Nat), lpB_X1_findTwins_2 N (lp_X1_findTwins_2 N m) (nI c) (upr st 36 g) = _ ∧ _
    unfold lpB_X1_findTwins_2
    have e4 : (upr st 36 g) 33 4 = nI n := by rw [upr_app, if_neg (by decide)]; exact h4
    rw [e4]
    by_cases hc : c = n
    · rw [if_pos (by rw [hc]; exact nI_le (Nat.le_refl _) (by omega))]
      rw [hc] at h3
      exact ⟨g, tw, rfl, fun i hi => (h3 i hi).1, fun i hi => (h3 i hi).2⟩
    · rw [if_neg (nI_ge (by omega) (by omega)), ck_in (by omega) (by decide), nI_clamp (by omega), lt_eq, lt_eq, up_upr]
      obtain ⟨g1, t1, a1, a2, a3, a4, a5⟩ := twin_in (st := st) hN hn (show c < n by omega) hf h4 (fun (s28 : St) => lt (nI c + (1 : Int32)) (fun (v29 : Int32) => lp_X1_findTwins_2 N m v29 s28)) N 0 0 (upd g c 0) (by omega) (by omega) (by rw [upd_app, if_pos rfl]; rfl) (by decide) (fun c' h => by simp at h)
      rw [nI0] at a1
      rw [a1, lt_eq, nI_1]
      refine ih (c + 1) (fun i => if i = c then t1 else tw i) g1 (by omega) (by omega) ?_
      intro i hi
      by_cases e : i = c
      · rw [e, if_pos rfl]
        exact ⟨a2, a3, a4⟩
      · rw [if_neg e, a5 i e, upd_app, if_neg e]
        exact h3 i (by omega)
theorem up_sw {st : St} {a b i j : Nat} {g : Nat → Int32} {x v : Int32} (hne : a ≠ b) : up (up (upr st a g) b j x) a i v = up (upr st a (upd g i v)) b j x := by
  funext q
  simp only [up_row, upr_app]
  by_cases q1 : q = a
  · subst q1; simp [hne]
  · simp [q1]
theorem mem_lp {st : St} {set : Nat} (hs : set < 128) (K : St → Option (Int32 × St)) : ∀ (m v : Nat) (g : Nat → Int32), v ≤ 7 → 7 - v < m → (∀ k, k < (msK set v).length → g k = nI ((msK set v).getD k 0)) → ∃ g' : Nat → Int32, lp_X1_leastBelow_20 (nI set) K m (nI v) (up (upr st 35 g) 33 4 (nI (msK set v).length)) = K (up (upr st 35 g') 33 4 (nI (mems set).length)) ∧ ∀ k, k < (mems set).length → g' k = nI ((mems set).getD k 0) := by
  intro m
  induction m with
  | zero => intro v g h1 h2; omega
  | succ m ih =>
    intro v g h1 h2 h3
    change ∃ g' : Nat → Int32, lpB_X1_leastBelow_20 (nI set) K (lp_X1_leastBelow_20 (nI set) K m) (nI v) _ = _ ∧ _
    unfold lpB_X1_leastBelow_20
    by_cases hv : v = 7
    · subst hv
      rw [if_pos (by decide)]
      exact ⟨g, rfl, h3⟩
    · rw [if_neg (by rw [L7]; exact nI_ge (by omega) (by decide)), bit_s (by omega) (by omega)]
      have hl := msK_len set v
      have hi := ih (v + 1)
      rw [msK_s] at hi
      cases hb : set.testBit v with
      | false =>
        rw [if_pos (by rfl), lt_eq, nI_1]
        rw [if_neg (by rw [hb]; decide)] at hi
        exact hi g (by omega) (by omega) h3
      | true =>
        rw [if_neg (by decide)]
        rw [if_pos hb, List.length_append, List.length_singleton] at hi
        have e4 : ∀ g x, (up (upr st 35 g) 33 4 x) 33 4 = x := fun g x => by rw [up_row, if_pos rfl, upd_app, if_pos rfl]
        have hsw : ∀ (g : Nat → Int32) (x y : Int32) (i : Nat), up (up (upr st 35 g) 33 4 x) 35 i y = up (upr st 35 (upd g i y)) 33 4 x := fun g x y i => up_sw (by decide)
        simp (disch := omega) only [lt_eq, e4, ck_in, nI_clamp, nI_1, hsw, up_up]
        refine hi _ (by omega) (by omega) ?_
        intro k hk
        rw [upd_app]
        by_cases e : k = (msK set v).length
        · rw [if_pos e, e]
          exact congrArg nI getD_a2.symm
        · rw [if_neg e]
          have hk2 : k < (msK set v).length := by omega
          rw [getD_a1 hk2]
          exact h3 k hk2
theorem run_b {S : Sn} {mem may tn : Nat → Bool} (i : Nat) : ∀ s, (tRun S mem may tn s).1 i ≤ 6 * s := by
  have hp : ∀ (v : Nat) (T : TS), (tPass mem v T).1 i ≤ T.1 i + 2 := by
    intro v T
    unfold tPass
    split
    · split
      · show T.1 i ≤ _; omega
      · simp only
        split
        · omega
        · exact tPair_le _ _ _ _
    · omega
  intro s
  induction s with
  | zero => exact Nat.le_refl _
  | succ s ih =>
    show (tStm S mem may tn s (tRun S mem may tn s)).1 i ≤ _
    generalize tRun S mem may tn s = T at *
    unfold tStm
    split
    · have h1 := hp (sT S s) (tFork (sL S s) (sR S s) T)
      have h2 : (tFork (sL S s) (sR S s) T).1 i ≤ T.1 i + 2 := tPair_le _ _ _ _
      omega
    · split
      · have h1 := hp (sT S s) (tPass mem (sL S s) (tPass mem (sR S s) T))
        have h2 := hp (sL S s) (tPass mem (sR S s) T)
        have h3 := hp (sR S s) T
        omega
      · have h1 := hp (sT S s) (tPass mem (sR S s) (tPass mem (sL S s) T))
        have h2 := hp (sR S s) (tPass mem (sL S s) T)
        have h3 := hp (sL S s) T
        omega
def WFr (st st' : St) : Prop := (∀ k, k ∉ [25, 26, 28, 29, 30, 33, 34, 35, 36] → st' k = st k) ∧ ∀ v, v < 8 → st' 34 v = st 34 v
theorem leastX {S : Sn} {set N lim : Nat} {mode : Bool} {st : St} (hN : 129 ≤ N) (hS : SnOk S) (h0 : 0 < set) (hset : set < 128) (hsub : sub set (usedS S) = true) (hl1 : 1 ≤ lim) (hl2 : lim ≤ 2000) (hc : ClsRep 1 S st) (hf : FarR (sF S) st) (h34 : ∀ v, v < 8 → st 34 v = 7) : ∃ st' : St, F_X1_leastBelow N (nI lim) (nI set) (nI (mayB S mode)) st = some (nI (min lim (opt S set mode).1), st') ∧ ((opt S set mode).1 < lim → st' 33 6 = nI (pack (mems set) (opt S set mode).2)) ∧ WFr st st' := by
  have hn := mems_len set
  have hn1 := mems_ne h0 hset
  obtain ⟨sa, a1, a2, a3⟩ := traceX (N := N) (set := set) (may := mayB S mode) (tn := 0) hN hS hset (by have := mayB_lt hS mode; omega) (by decide) hc
  generalize hT : tRun S (fun v => set.testBit v) (fun v => (mayB S mode).testBit v) (fun v => (0 : Nat).testBit v) (sN S) = T at a2
  obtain ⟨g, b1, b2⟩ := mem_lp (st := sa) hset (fun (s28 : St) => lt (up s28 33 5 (nI lim - (1 : Int32))) (fun (s29 : St) => lt (fun (s30 : St) => some (((s30 33 5) + (1 : Int32)), s30)) (fun (j31 : St → Option (Int32 × St)) => (if (s29 33 4) ≤ 0 then j31 s29 else bs (F_X1_findTwins N s29) (fun (s32 : St) => bs (F_X1_lay N 9 (0 : Int32) (0 : Int32) (0 : Int32) s32) (fun (s33 : St) => j31 s33)))))) N 0 (sa 35) (by omega) (by omega) (fun k hk => by simp [msK] at hk)
  rw [upr_id, show nI (msK set 0).length = 0 from rfl, nI0] at b1
  generalize hs1 : up (up (upr sa 35 g) 33 4 (nI (mems set).length)) 33 5 (nI (lim - 1)) = s1
  have e4 : s1 33 4 = nI (mems set).length := by
    rw [← hs1, up_row, if_pos rfl, upd_app, if_neg (by decide), up_row, if_pos rfl, upd_app, if_pos rfl]
  have f1 : ∀ k, k ≠ 33 → k ≠ 35 → s1 k = sa k := by
    intro k k1 k2
    rw [← hs1, up_row, if_neg k1, up_row, if_neg k1, upr_app, if_neg k2]
  have hf1 : FarR (sF S) s1 := by
    intro x y hx hy
    rw [f1 27 (by decide) (by decide), a3 27 (by decide) (by decide) (by decide) (by decide) (by decide)]
    exact hf x y hx hy
  obtain ⟨g2, tw, c1, c2, c3⟩ := twin_out (st := s1) hN (by omega) hf1 e4 N 0 (fun _ => 0) (s1 36) (by omega) (by omega) (fun i hi => by omega)
  rw [upr_id, nI0] at c1
  have hSR : SR (sF S) set T tw (upr s1 36 g2) := by
    refine ⟨?_, ?_, ?_, ?_, ?_⟩
    · intro x y hx hy
      rw [upr_app, if_neg (by decide)]
      exact hf1 x y hx hy
    · refine a2.kept ?_ ?_ ?_ ?_ ?_ <;> (rw [upr_app, if_neg (by decide)]; exact f1 _ (by decide) (by decide))
    · rw [upr_app, if_neg (by decide)]; exact e4
    · rw [upr_app, if_neg (by decide), ← hs1, up_row, if_neg (by decide), up_row, if_neg (by decide), upr_app, if_pos rfl]
      exact b2
    · rw [upr_app, if_pos rfl]; exact c2
  have h34s : ∀ v, v < 8 → (upr s1 36 g2) 34 v = nI (clP (mems set) [] v) := by
    intro v hv
    rw [upr_app, if_neg (by decide), f1 34 (by decide) (by decide), a3 34 (by decide) (by decide) (by decide) (by decide) (by decide), h34 v hv]
    rfl
  have hfk : fkOk T.2.1 := by rw [← hT]; exact run_fk hS _ (Nat.le_refl _)
  have hlen : T.2.1.length ≤ 20 := by rw [← hT]; exact run_len hS
  have hb : ∀ i, T.1 i ≤ 100 := by
    intro i
    rw [← hT]
    have := run_b (S := S) (mem := fun v => set.testBit v) (may := fun v => (mayB S mode).testBit v) (tn := fun v => (0 : Nat).testBit v) i (sN S)
    have := hS.1
    omega
  obtain ⟨s2, d1, d2, d3, d4⟩ := layX (N := N) hN hfk hlen hb c3 ((mems set).length - 1) 9 (by omega) [] (lim - 1, none) (upr s1 36 g2) (by simp; omega) ⟨fun c hc => (by cases hc), List.nodup_nil⟩ (by simp only; omega) hSR h34s ⟨by
    rw [upr_app, if_neg (by decide), ← hs1, up_row, if_pos rfl, upd_app, if_pos rfl], fun row hr => by cases hr⟩
  have hfold : (lvs (mems set).length ((mems set).length - 1 + 1) []).foldl (fB (vlP (sF S) T (mems set))) (lim - 1, none) = if (opt S set mode).1 < lim - 1 + 1 then ((opt S set mode).1 - 1, some (opt S set mode).2) else (lim - 1, none) := by
    rw [show (mems set).length - 1 + 1 = (mems set).length by omega]
    obtain ⟨p, p1, -⟩ := fm_none (f := costRow S set mode) (perms_ne _ (mems_len set))
    have hopt : opt S set mode = p := by
      unfold opt
      rw [p1]
      rfl
    rw [hopt]
    refine fB_fm (cost := costRow S set mode) (L := lim - 1) (perms (mems set).length) none (lim - 1, none) ?_ (fun p h => by cases h) (fun p h => by cases h) (fun _ => rfl) p p1
    intro l hl
    rw [← hT]
    exact cost_vl hS h0 hset hsub (perms_ok hl)
  rw [hfold] at d3
  have hop := opt_pos hS set mode h0 hset hsub
  have hfin : s2 33 5 + 1 = nI (min lim (opt S set mode).1) := by
    rw [d3.1]
    by_cases h : (opt S set mode).1 < lim - 1 + 1
    · rw [if_pos h]
      simp only
      rw [nI_1]
      congr 1
      omega
    · rw [if_neg h]
      simp only
      rw [nI_1]
      congr 1
      omega
  refine ⟨s2, ?_, ?_, ?_⟩
  · unfold F_X1_leastBelow
    rw [show (0 : Int32) = nI 0 from rfl, a1, bs_s, lt_eq, lt_eq]
    rw [show (nI 0 : Int32) = 0 from rfl, b1]
    rw [show nI lim - (1 : Int32) = nI (lim - 1) from pk_sub (a := lim) (b := 1) hl1]
    simp only [lt_eq]
    rw [hs1, e4, if_neg (by rw [L0, nI_leI (by omega) (by omega)]; omega)]
    unfold F_X1_findTwins
    rw [lt_eq, c1, bs_s]
    have d1' : F_X1_lay N 9 0 0 0 (upr s1 36 g2) = some s2 := d1
    rw [d1', bs_s, hfin]
  · intro h
    rw [if_pos (by omega)] at d3
    exact d3.2 _ rfl
  · refine ⟨?_, ?_⟩
    · intro k hk
      simp only [List.mem_cons, List.not_mem_nil, or_false, not_or] at hk
      rw [d4.1 k (by omega) (by omega), upr_app, if_neg (by omega), f1 k (by omega) (by omega), a3 k (by omega) (by omega) (by omega) (by omega) (by omega)]
    · intro v hv
      rw [d2 v hv, h34 v hv]
      rfl
