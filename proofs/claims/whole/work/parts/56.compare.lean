def FloM (S : Sn) (mode : Bool) (st : St) : Prop := ∀ set, 0 < set → set < 128 → sub set (usedS S) = true → ∃ f : Nat, st (57 + mode.toNat) set = nI f ∧ f ≤ (opt S set mode).1 ∧ (st (60 + mode.toNat) set = -1 ∨ (f = (opt S set mode).1 ∧ st (60 + mode.toNat) set = nI (pack (mems set) (opt S set mode).2)))
def PC (S : Sn) (mode : Bool) (st : St) : Prop := ClsRep 1 S st ∧ FarR (sF S) st ∧ (∀ v, v < 8 → st 34 v = 7) ∧ st 32 12 = bi mode ∧ st 32 13 = nI (mayB S mode) ∧ FloM S mode st
def cfL (mode : Bool) : List Nat := [25, 26, 28, 29, 30, 32, 33, 34, 35, 36, 57 + mode.toNat, 60 + mode.toNat, 62, 63]
def CFr (mode : Bool) (st st' : St) : Prop := (∀ k, k ∉ cfL mode → st' k = st k) ∧ (∀ j, j ≠ 14 → j ≠ 15 → st' 32 j = st 32 j) ∧ (∀ g, g < 3 → st' 62 g = st 62 g) ∧ ∀ set, st (60 + mode.toNat) set ≠ -1 → st' (60 + mode.toNat) set = st (60 + mode.toNat) set
theorem CFr.refl {mode : Bool} {st : St} : CFr mode st st := ⟨fun _ _ => rfl, fun _ _ _ => rfl, fun _ _ => rfl, fun _ _ => rfl⟩
theorem CFr.trans {mode : Bool} {x y z : St} (h1 : CFr mode x y) (h2 : CFr mode y z) : CFr mode x z := ⟨fun k hk => by rw [h2.1 k hk, h1.1 k hk], fun j a b => by rw [h2.2.1 j a b, h1.2.1 j a b], fun g hg => by rw [h2.2.2.1 g hg, h1.2.2.1 g hg], fun s hs => by rw [h2.2.2.2 s (by rw [h1.2.2.2 s hs]; exact hs), h1.2.2.2 s hs]⟩
theorem pack_lt {set : Nat} {row : List Nat} (hr : rowOk (mems set).length row) : pack (mems set) row < 2 ^ 21 := by
  have hn := mems_len set
  have : ∀ (l : List Nat) (u : Nat), (∀ v, v ∈ l → v ∈ mems set) → u < 2 ^ 21 → l.foldl (fun u v => u ||| cellOf (mems set) row v * 8 ^ v) u < 2 ^ 21 := by
    intro l
    induction l with
    | nil => intro u _ h; exact h
    | cons v vs ih =>
      intro u hl hu
      rw [List.foldl_cons]
      refine ih _ (fun w hw => hl w (List.mem_cons_of_mem _ hw)) (Nat.or_lt_two_pow hu ?_)
      obtain ⟨v1, v2⟩ := mems_mem.mp (hl v List.mem_cons_self)
      obtain ⟨i1, -⟩ := idx_getD (mems_mem.mpr ⟨v1, v2⟩)
      have hc : cellOf (mems set) row v < 8 := by
        unfold cellOf
        have := row_lt hr i1
        omega
      have : ∀ c, c < 8 → ∀ v, v < 7 → c * 8 ^ v < 2 ^ 21 := by decide
      exact this _ hc v v1
  exact this (mems set) 0 (fun v hv => hv) (by decide)
theorem nI_ne {n : Nat} (h : n < 2 ^ 31) : nI n ≠ -1 := by
  intro e
  have h1 := nI_pos' h
  rw [e] at h1
  exact absurd h1 (by decide)
theorem cl_bi (mode : Bool) : (bi mode).toNatClampNeg = mode.toNat := by cases mode <;> rfl
theorem inb_bi (mode : Bool) : inb (bi mode) 2 = true := by cases mode <;> rfl
/-- blocks that registers have -/
def BlO (S : Sn) (B : Nat → Nat) (fl : Nat) : Prop := fl ≤ 3 ∧ (∀ g, g < fl → 0 < B g ∧ B g < 128 ∧ sub (B g) (usedS S) = true) ∧ ∀ g h, g < fl → h < fl → B g = B h → g = h
theorem cmp4 {S : Sn} {mode : Bool} {st : St} {B f : Nat → Nat} {fl : Nat} (hm : st 32 12 = bi mode) (hB : BlO S B fl) (h62 : ∀ g, g < fl → st 62 g = nI (B g)) (hf : ∀ g, g < fl → st (57 + mode.toNat) (B g) = nI (f g)) (K : Int32 → Option St) : ∀ (m g : Nat), g ≤ fl → fl - g < m → lp_X3_compare_4 (nI fl) st K m (nI (sumR f g)) (nI g) = K (nI (sumR f fl)) := by
  intro m
  have h3 := hB.1
  induction m with
  | zero => intro g h1 h2; omega
  | succ m ih =>
    intro g h1 h2
    change lpB_X3_compare_4 (nI fl) st K (lp_X3_compare_4 (nI fl) st K m) (nI (sumR f g)) (nI g) = _
    unfold lpB_X3_compare_4
    by_cases hg : g = fl
    · rw [if_pos (by rw [hg]; exact nI_le (Nat.le_refl _) (by omega)), hg]
    · have hg2 : g < fl := by omega
      obtain ⟨b1, b2, -⟩ := hB.2.1 g hg2
      rw [if_neg (nI_ge hg2 (by omega)), hm, inb_bi, ck_t, cl_bi]
      have e62 := h62 g hg2
      have ef := hf g hg2
      simp (disch := omega) only [ck_in, nI_clamp, e62, Nat.one_mul, ef, lt_eq, nI_add, nI_1]
      exact ih (g + 1) (by omega) (by omega)
theorem sumR_pt {f h : Nat → Nat} : ∀ n, (∀ i, i < n → f i ≤ h i) → sumR f n ≤ sumR h n := by
  intro n
  induction n with
  | zero => intro _; exact Nat.le_refl _
  | succ n ih =>
    intro hh
    have h1 := ih (fun i hi => hh i (by omega))
    have h2 := hh n (by omega)
    show sumR f n + f n ≤ sumR h n + h n
    omega
theorem PC.kept {S : Sn} {mode : Bool} {st st' : St} (h : PC S mode st) (hf : CFr mode st st') (h34 : ∀ v, v < 8 → st' 34 v = st 34 v) (hF : FloM S mode st') : PC S mode st' := by
  obtain ⟨a1, a2, a3, a4, a5, -⟩ := h
  have hc : ∀ k, k ∉ [25, 26, 28, 29, 30, 32, 33, 34, 35, 36, 57, 58, 60, 61, 62, 63] → st' k = st k := by
    intro k hk
    refine hf.1 k ?_
    unfold cfL
    simp only [List.mem_cons, List.not_mem_nil, or_false, not_or] at *
    cases mode <;> simp <;> omega
  refine ⟨a1.kept (hc _ (by decide)) (hc _ (by decide)) (hc _ (by decide)) (hc _ (by decide)) (hc _ (by decide)) (hc _ (by decide)) (hc _ (by decide)), ?_, ?_, ?_, ?_, hF⟩
  · intro x y hx hy
    rw [hc 27 (by decide)]
    exact a2 x y hx hy
  · intro v hv
    rw [h34 v hv]
    exact a3 v hv
  · rw [hf.2.1 12 (by decide) (by decide)]; exact a4
  · rw [hf.2.1 13 (by decide) (by decide)]; exact a5
theorem cmp36 {S : Sn} {mode : Bool} {B : Nat → Nat} {fl N best : Nat} (hN : 129 ≤ N) (hS : SnOk S) (hB : BlO S B fl) (hbest : best ≤ 1100) (K : Int32 → St → Option St) : ∀ (j m g : Nat) (f : Nat → Nat) (st : St), g + j = fl → j + 1 < m → PC S mode st → st 32 14 = nI best → (∀ i, i < fl → st 62 i = nI (B i)) → (∀ i, i < g → f i = (opt S (B i) mode).1 ∧ st (60 + mode.toNat) (B i) ≠ -1) → (∀ i, g ≤ i → i < fl → st (57 + mode.toNat) (B i) = nI (f i) ∧ f i ≤ (opt S (B i) mode).1) → ∃ (s' : Nat) (st' : St), lp_X3_compare_36 N (nI fl) K m (nI (sumR f fl)) (nI g) st = K (nI s') st' ∧ s' ≤ 1200 ∧ PC S mode st' ∧ CFr mode st st' ∧ st' 32 = st 32 ∧ st' 62 = st 62 ∧ st' 63 = st 63 ∧ ((s' < best ∧ s' = sumR (fun i => (opt S (B i) mode).1) fl ∧ ∀ i, i < fl → st' (60 + mode.toNat) (B i) ≠ -1) ∨ (best ≤ s' ∧ best ≤ sumR (fun i => (opt S (B i) mode).1) fl)) := by
  have h3 := hB.1
  have hmm : mode.toNat < 2 := by cases mode <;> decide
  intro j
  induction j with
  | zero =>
    intro m g f st h1 h2 hP hb h62 hlo hhi
    obtain ⟨m', rfl⟩ : ∃ m', m = m' + 1 := ⟨m - 1, by omega⟩
    obtain rfl : g = fl := by omega
    have hs : sumR f g = sumR (fun i => (opt S (B i) mode).1) g := sumR_congr g (fun i hi => (hlo i hi).1)
    have hle : sumR f g ≤ 90 := by
      have := sumR_bd (f := f) (B := 30) g (fun i hi => by rw [(hlo i hi).1]; exact opt_le hS _ _)
      omega
    refine ⟨sumR f g, st, ?_, by omega, hP, CFr.refl, rfl, rfl, rfl, ?_⟩
    · change lpB_X3_compare_36 N (nI g) K (lp_X3_compare_36 N (nI g) K m') _ (nI g) st = _
      unfold lpB_X3_compare_36
      rw [if_pos (nI_le (Nat.le_refl _) (by omega))]
    · by_cases c : sumR f g < best
      · exact Or.inl ⟨c, hs, fun i hi => (hlo i hi).2⟩
      · exact Or.inr ⟨by omega, by omega⟩
  | succ j ih =>
    intro m g f st h1 h2 hP hb h62 hlo hhi
    obtain ⟨m', rfl⟩ : ∃ m', m = m' + 2 := ⟨m - 2, by omega⟩
    have hg : g < fl := by omega
    have hfle : ∀ i, i < fl → f i ≤ (opt S (B i) mode).1 := by
      intro i hi
      by_cases c : i < g
      · rw [(hlo i c).1]; exact Nat.le_refl _
      · exact (hhi i (by omega) hi).2
    have htot : sumR f fl ≤ sumR (fun i => (opt S (B i) mode).1) fl := sumR_pt fl hfle
    have hs90 : sumR f fl ≤ 90 := by
      have := sumR_bd (f := f) (B := 30) fl (fun i hi => Nat.le_trans (hfle i hi) (opt_le hS _ _))
      omega
    change ∃ (s' : Nat) (st' : St), lpB_X3_compare_36 N (nI fl) K (lp_X3_compare_36 N (nI fl) K (m' + 1)) _ (nI g) st = _ ∧ _
    unfold lpB_X3_compare_36
    rw [if_neg (nI_ge hg (by omega)), hb]
    by_cases c : best ≤ sumR f fl
    · rw [if_pos ((nI_leI (by omega) (by omega)).mpr c)]
      exact ⟨sumR f fl, st, rfl, by omega, hP, CFr.refl, rfl, rfl, rfl, Or.inr ⟨c, by omega⟩⟩
    · rw [if_neg (by rw [nI_leI (by omega) (by omega)]; exact c)]
      obtain ⟨b1, b2, b3⟩ := hB.2.1 g hg
      have e62 := h62 g hg
      have e12 := hP.2.2.2.1
      have e13 := hP.2.2.2.2.1
      obtain ⟨ff, q1, q2, q3⟩ := hP.2.2.2.2.2 (B g) b1 b2 b3
      have efg := (hhi g (Nat.le_refl _) hg).1
      have hof := opt_le hS (B g) mode
      have hff : ff = f g := by
        rw [q1] at efg
        have := (hhi g (Nat.le_refl _) hg).2
        exact (nI_eq (by omega) (by omega)).mp efg
      rw [ck_in (by omega) (by decide), nI_clamp (by omega), e62, lt_eq, e12, inb_bi, ck_t, ck_in b2 (by decide), cl_bi, nI_clamp (by omega), Nat.one_mul]
      by_cases hl : st (60 + mode.toNat) (B g) = -1
      · rw [if_pos hl, ck_t, ck_in b2 (by decide), lt_eq, lt_eq, efg]
        have hge : f g ≤ sumR f fl := by
          have := sumR_upd (f := f) (p := g) (x := 0) fl hg
          omega
        have e1 : nI (sumR f fl) - nI (f g) = nI (sumR f fl - f g) := pk_sub hge
        have e2 : nI best - nI (sumR f fl - f g) = nI (best - (sumR f fl - f g)) := pk_sub (by omega)
        rw [e1, e2, e13]
        have hlim1 : 1 ≤ best - (sumR f fl - f g) := by omega
        obtain ⟨s2, l1, l2, l3⟩ := leastX (N := N) (mode := mode) hN hS b1 b2 b3 hlim1 (by omega) hP.1 hP.2.1 hP.2.2.1
        have k12 : s2 32 = st 32 := l3.1 32 (by decide)
        have hrest : ∀ x, sumR (fun i => if i = g then x else f i) fl = sumR f fl - f g + x := by
          intro x
          have := sumR_upd (f := f) (p := g) (x := x) fl hg
          omega
        rw [l1, bd_s]
        simp only [lt_eq]
        rw [k12, e12, inb_bi, ck_t, ck_in b2 (by decide), cl_bi, Nat.one_mul]
        generalize hr : min (best - (sumR f fl - f g)) (opt S (B g) mode).1 = r
        generalize hs3 : up s2 (57 + mode.toNat) (B g) (nI r) = s3
        have j32 : s3 32 = st 32 := by rw [← hs3, up_row, if_neg (by omega)]; exact k12
        have k57 : s2 (57 + mode.toNat) = st (57 + mode.toNat) := l3.1 _ (by simp only [List.mem_cons, List.not_mem_nil, or_false, not_or]; omega)
        have k60 : s2 (60 + mode.toNat) = st (60 + mode.toNat) := l3.1 _ (by simp only [List.mem_cons, List.not_mem_nil, or_false, not_or]; omega)
        have c3 : CFr mode st s3 := by
          refine ⟨fun k hk => ?_, fun j _ _ => by rw [j32], fun q hq => ?_, fun q hq => ?_⟩
          · unfold cfL at hk
            simp only [List.mem_cons, List.not_mem_nil, or_false, not_or] at hk
            rw [← hs3, up_row, if_neg (by omega)]
            exact l3.1 k (by simp only [List.mem_cons, List.not_mem_nil, or_false, not_or]; omega)
          · rw [← hs3, up_row, if_neg (by omega), l3.1 62 (by decide)]
          · rw [← hs3, up_row, if_neg (by omega), k60]
        have m62 : s3 62 = st 62 := by rw [← hs3, up_row, if_neg (by omega), l3.1 62 (by decide)]
        have m63 : s3 63 = st 63 := by rw [← hs3, up_row, if_neg (by omega), l3.1 63 (by decide)]
        have m34 : ∀ v, v < 8 → s3 34 v = st 34 v := by intro v hv; rw [← hs3, up_row, if_neg (by omega)]; exact l3.2 v hv
        have m60 : s3 (60 + mode.toNat) = st (60 + mode.toNat) := by rw [← hs3, up_row, if_neg (by omega)]; exact k60
        have m57 : ∀ q, s3 (57 + mode.toNat) q = if q = B g then nI r else st (57 + mode.toNat) q := by
          intro q
          rw [← hs3, up_row, if_pos rfl, upd_app, k57]
        by_cases ho : (opt S (B g) mode).1 < best - (sumR f fl - f g)
        · have hr2 : r = (opt S (B g) mode).1 := by rw [← hr]; omega
          have hpk := pack_lt (opt_row (S := S) (set := B g) (mode := mode))
          rw [if_neg (by rw [nI_leI (by omega) (by omega)]; omega), j32, e12, inb_bi, ck_t, ck_in b2 (by decide), cl_bi, Nat.one_mul]
          have e336 : s3 33 6 = nI (pack (mems (B g)) (opt S (B g) mode).2) := by
            rw [← hs3, up_row, if_neg (by omega)]
            exact l2 ho
          rw [e336]
          generalize hs4 : up s3 (60 + mode.toNat) (B g) (nI (pack (mems (B g)) (opt S (B g) mode).2)) = s4
          have n60 : ∀ q, s4 (60 + mode.toNat) q = if q = B g then nI (pack (mems (B g)) (opt S (B g) mode).2) else st (60 + mode.toNat) q := by
            intro q
            rw [← hs4, up_row, if_pos rfl, upd_app, m60]
          have n57 : s4 (57 + mode.toNat) = s3 (57 + mode.toNat) := by rw [← hs4, up_row, if_neg (by omega)]
          have c4 : CFr mode s3 s4 := by
            refine ⟨fun k hk => ?_, fun j _ _ => ?_, fun q hq => ?_, fun q hq => ?_⟩
            · unfold cfL at hk
              simp only [List.mem_cons, List.not_mem_nil, or_false, not_or] at hk
              rw [← hs4, up_row, if_neg (by omega)]
            · rw [← hs4, up_row, if_neg (by omega)]
            · rw [← hs4, up_row, if_neg (by omega)]
            · rw [n60, m60]
              rw [m60] at hq
              by_cases e : q = B g
              · rw [e] at hq; exact absurd hl hq
              · rw [if_neg e]
          have c34 := c3.trans c4
          have P4 : PC S mode s4 := by
            refine hP.kept c34 (fun v hv => by rw [← hs4, up_row, if_neg (by omega)]; exact m34 v hv) ?_
            intro set s0 s1 s2
            by_cases e : set = B g
            · subst e
              refine ⟨r, by rw [n57, m57, if_pos rfl], by omega, Or.inr ⟨hr2, by rw [n60, if_pos rfl]⟩⟩
            · obtain ⟨f', p1, p2, p3⟩ := hP.2.2.2.2.2 set s0 s1 s2
              refine ⟨f', by rw [n57, m57, if_neg e]; exact p1, p2, ?_⟩
              rw [n60, if_neg e]
              exact p3
          have hsum : nI (sumR f fl - f g) + nI r = nI (sumR (fun i => if i = g then r else f i) fl) := by rw [nI_add, hrest]
          rw [hsum, nI_1]
          obtain ⟨s', st', t1, t2, t3, t4, t5, t6, t7, t8⟩ := ih (m' + 1) (g + 1) (fun i => if i = g then r else f i) s4 (by omega) (by omega) P4 (by rw [← hs4, up_row, if_neg (by omega), j32]; exact hb) (by
            intro i hi
            rw [← hs4, up_row, if_neg (by omega), m62]
            exact h62 i hi) (by
            intro i hi
            by_cases e : i = g
            · rw [e, if_pos rfl]
              exact ⟨hr2, by rw [n60, if_pos rfl]; exact nI_ne (by omega)⟩
            · rw [if_neg e]
              have := hlo i (by omega)
              refine ⟨this.1, ?_⟩
              rw [n60, if_neg (fun q => e (hB.2.2 i g (by omega) hg q))]
              exact this.2) (by
            intro i h1 h2
            rw [if_neg (by omega), n57, m57, if_neg (fun q => by have := hB.2.2 i g h2 hg q; omega)]
            exact hhi i (by omega) h2)
          refine ⟨s', st', t1, t2, t3, c34.trans t4, ?_, ?_, ?_, t8⟩
          · rw [t5, ← hs4, up_row, if_neg (by omega), j32]
          · rw [t6, ← hs4, up_row, if_neg (by omega), m62]
          · rw [t7, ← hs4, up_row, if_neg (by omega), m63]
        · have hr2 : r = best - (sumR f fl - f g) := by rw [← hr]; omega
          rw [if_pos ((nI_leI (by omega) (by omega)).mpr (by omega)), nI_add, nI_1]
          have hsb : sumR f fl - f g + r = best := by omega
          rw [hsb]
          have hbt : best ≤ sumR (fun i => (opt S (B i) mode).1) fl := by
            have h5 := hrest (opt S (B g) mode).1
            have h6 : sumR (fun i => if i = g then (opt S (B g) mode).1 else f i) fl ≤ sumR (fun i => (opt S (B i) mode).1) fl := by
              apply sumR_pt
              intro i hi
              by_cases e : i = g
              · rw [if_pos e, e]; exact Nat.le_refl _
              · rw [if_neg e]; exact hfle i hi
            omega
          refine ⟨best, s3, ?_, by omega, ?_, c3, j32, m62, m63, Or.inr ⟨Nat.le_refl _, hbt⟩⟩
          · change lpB_X3_compare_36 N (nI fl) K (lp_X3_compare_36 N (nI fl) K m') (nI best) (nI (g + 1)) s3 = _
            unfold lpB_X3_compare_36
            split
            · rfl
            · rw [j32, hb, if_pos (nI_le (Nat.le_refl _) (by omega))]
          · refine hP.kept c3 m34 ?_
            intro set s0 s1 s2
            by_cases e : set = B g
            · subst e
              exact ⟨r, by rw [m57, if_pos rfl], by omega, Or.inl (by rw [m60]; exact hl)⟩
            · obtain ⟨f', p1, p2, p3⟩ := hP.2.2.2.2.2 set s0 s1 s2
              refine ⟨f', by rw [m57, if_neg e]; exact p1, p2, ?_⟩
              rw [m60]
              exact p3
      · rw [if_neg hl, lt_eq, nI_1]
        rcases q3 with q3 | ⟨q3, q4⟩
        · exact absurd q3 hl
        · obtain ⟨s', st', t1, t2, t3, t4, t5, t6, t7, t8⟩ := ih (m' + 1) (g + 1) f st (by omega) (by omega) hP hb h62 (by
            intro i hi
            by_cases e : i = g
            · rw [e, ← hff]; exact ⟨q3, hl⟩
            · exact hlo i (by omega)) (fun i h1 h2 => hhi i (by omega) h2)
          exact ⟨s', st', t1, t2, t3, t4, t5, t6, t7, t8⟩
theorem cmpX {S : Sn} {mode : Bool} {B : Nat → Nat} {fl N best : Nat} {st : St} (hN : 129 ≤ N) (hS : SnOk S) (hB : BlO S B fl) (hbest : best ≤ 1100) (hP : PC S mode st) (hb : st 32 14 = nI best) (h62 : ∀ i, i < fl → st 62 i = nI (B i)) : ∃ st' : St, F_X3_compare N (nI fl) st = some st' ∧ PC S mode st' ∧ CFr mode st st' ∧ (sumR (fun i => (opt S (B i) mode).1) fl < best → st' 32 14 = nI (sumR (fun i => (opt S (B i) mode).1) fl) ∧ st' 32 15 = nI fl ∧ (∀ g, g < 3 → st' 63 g = st 62 g) ∧ ∀ i, i < fl → st' (60 + mode.toNat) (B i) ≠ -1) ∧ (best ≤ sumR (fun i => (opt S (B i) mode).1) fl → st' 32 = st 32 ∧ st' 63 = st 63) := by
  have h3 := hB.1
  have hmm : mode.toNat < 2 := by cases mode <;> decide
  have hf : ∃ f : Nat → Nat, ∀ g, g < fl → st (57 + mode.toNat) (B g) = nI (f g) ∧ f g ≤ (opt S (B g) mode).1 := by
    refine ⟨fun g => if h : g < fl then (hP.2.2.2.2.2 (B g) (hB.2.1 g h).1 (hB.2.1 g h).2.1 (hB.2.1 g h).2.2).choose else 0, fun g hg => ?_⟩
    simp only [dif_pos hg]
    have := (hP.2.2.2.2.2 (B g) (hB.2.1 g hg).1 (hB.2.1 g hg).2.1 (hB.2.1 g hg).2.2).choose_spec
    exact ⟨this.1, this.2.1⟩
  obtain ⟨f, hf⟩ := hf
  obtain ⟨s', s1, t1, t2, t3, t4, t5, t6, t7, t8⟩ := cmp36 (mode := mode) hN hS hB hbest (fun (v45 : Int32) (s46 : St) => (if (s46 32 14) ≤ v45 then some s46 else lt (up s46 32 14 v45) (fun (s47 : St) => lt (up s47 32 15 (nI fl)) (fun (s48 : St) => ck (decide (0 ≤ (0 : Int32) ∧ 0 ≤ (0 : Int32) ∧ 0 ≤ (3 : Int32) ∧ (0 : Int32).toNatClampNeg + (3 : Int32).toNatClampNeg ≤ 3 ∧ (0 : Int32).toNatClampNeg + (3 : Int32).toNatClampNeg ≤ 3)) (lt (upr s48 63 (va_cpy (s48 62) (s48 63) (0 : Int32).toNatClampNeg (0 : Int32).toNatClampNeg (3 : Int32).toNatClampNeg)) (fun (s49 : St) => some s49)))))) fl N 0 f st (by omega) (by omega) hP hb h62 (fun i hi => by omega) (fun i _ hi => hf i hi)
  have hF : F_X3_compare N (nI fl) st = (if (s1 32 14) ≤ nI s' then some s1 else lt (up s1 32 14 (nI s')) (fun (s47 : St) => lt (up s47 32 15 (nI fl)) (fun (s48 : St) => ck (decide (0 ≤ (0 : Int32) ∧ 0 ≤ (0 : Int32) ∧ 0 ≤ (3 : Int32) ∧ (0 : Int32).toNatClampNeg + (3 : Int32).toNatClampNeg ≤ 3 ∧ (0 : Int32).toNatClampNeg + (3 : Int32).toNatClampNeg ≤ 3)) (lt (upr s48 63 (va_cpy (s48 62) (s48 63) (0 : Int32).toNatClampNeg (0 : Int32).toNatClampNeg (3 : Int32).toNatClampNeg)) (fun (s49 : St) => some s49))))) := by
    unfold F_X3_compare
    rw [lt_eq, lt_eq]
    refine (cmp4 hP.2.2.2.1 hB h62 (fun g hg => (hf g hg).1) _ N 0 (by omega) (by omega)).trans ?_
    rw [lt_eq]
    exact t1
  rw [hF, t5, hb]
  rcases t8 with ⟨u1, u2, u3⟩ | ⟨u1, u2⟩
  · rw [if_neg (by rw [nI_leI (by omega) (by omega)]; omega), lt_eq, lt_eq, show (decide (0 ≤ (0 : Int32) ∧ 0 ≤ (0 : Int32) ∧ 0 ≤ (3 : Int32) ∧ (0 : Int32).toNatClampNeg + (3 : Int32).toNatClampNeg ≤ 3 ∧ (0 : Int32).toNatClampNeg + (3 : Int32).toNatClampNeg ≤ 3)) = true from by decide, ck_t, lt_eq, show (0 : Int32).toNatClampNeg = 0 from rfl, show (3 : Int32).toNatClampNeg = 3 from rfl]
    generalize hs2 : up (up s1 32 14 (nI s')) 32 15 (nI fl) = s2
    have k32 : ∀ j, s2 32 j = if j = 15 then nI fl else if j = 14 then nI s' else st 32 j := by
      intro j
      rw [← hs2, up_row, if_pos rfl, upd_app, up_row, if_pos rfl, upd_app, t5]
    have kk : ∀ k, k ≠ 32 → s2 k = s1 k := fun k hk => by rw [← hs2, up_row, if_neg hk, up_row, if_neg hk]
    generalize hcp : va_cpy (s2 62) (s2 63) 0 0 3 = cp
    have hcp2 : ∀ g, g < 3 → cp g = st 62 g := by
      intro g hg
      rw [← hcp, pk_cpy_in (Nat.zero_le _) (by omega), kk 62 (by decide), t6, Nat.zero_add, Nat.sub_zero]
    have c5 : CFr mode s1 (upr s2 63 cp) := by
      refine ⟨fun k hk => ?_, fun j j1 j2 => ?_, fun q hq => ?_, fun q hq => ?_⟩
      · unfold cfL at hk
        simp only [List.mem_cons, List.not_mem_nil, or_false, not_or] at hk
        rw [upr_app, if_neg (by omega), kk k (by omega)]
      · rw [upr_app, if_neg (by decide), k32, if_neg j2, if_neg j1, t5]
      · rw [upr_app, if_neg (by decide), kk 62 (by decide)]
      · rw [upr_app, if_neg (by omega), kk _ (by omega)]
    refine ⟨upr s2 63 cp, rfl, ?_, t4.trans c5, ?_, ?_⟩
    · refine t3.kept c5 (fun v hv => by rw [upr_app, if_neg (by decide), kk 34 (by decide)]) ?_
      have h57 : (upr s2 63 cp) (57 + mode.toNat) = s1 (57 + mode.toNat) := by rw [upr_app, if_neg (by omega), kk _ (by omega)]
      have h60 : (upr s2 63 cp) (60 + mode.toNat) = s1 (60 + mode.toNat) := by rw [upr_app, if_neg (by omega), kk _ (by omega)]
      unfold FloM
      rw [h57, h60]
      exact t3.2.2.2.2.2
    · intro _
      refine ⟨?_, ?_, ?_, ?_⟩
      · rw [upr_app, if_neg (by decide), k32, if_neg (by decide), if_pos rfl, u2]
      · rw [upr_app, if_neg (by decide), k32, if_pos rfl]
      · intro g hg
        rw [upr_app, if_pos rfl]
        exact hcp2 g hg
      · intro i hi
        rw [upr_app, if_neg (by omega), kk _ (by omega)]
        exact u3 i hi
    · intro h
      omega
  · rw [if_pos ((nI_leI (by omega) (by omega)).mpr u1)]
    exact ⟨s1, rfl, t3, t4, fun h => by omega, fun _ => ⟨t5, t7⟩⟩
