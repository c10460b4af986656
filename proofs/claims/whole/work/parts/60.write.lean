theorem mul8_bit (c v i : Nat) : (c * 8 ^ v).testBit i = (decide (3 * v ≤ i) && c.testBit (i - 3 * v)) := by
  rw [show (8 : Nat) = 2 ^ 3 from rfl, ← Nat.pow_mul]
  first
    | rw [Nat.testBit_mul_two_pow]
    | rw [Nat.testBit_mul_pow_two]
theorem pack_b {f : Nat → Nat} {i : Nat} : ∀ (l : List Nat) (u : Nat), ((l.foldl (fun u v => u ||| f v * 8 ^ v) u).testBit i = true ↔ (u.testBit i = true ∨ ∃ v, v ∈ l ∧ (f v * 8 ^ v).testBit i = true)) := by
  intro l
  induction l with
  | nil => intro u; simp
  | cons x xs ih =>
    intro u
    rw [List.foldl_cons, ih, Nat.testBit_or, Bool.or_eq_true]
    constructor
    · rintro ((h | h) | ⟨v, h1, h2⟩)
      · exact Or.inl h
      · exact Or.inr ⟨x, List.mem_cons_self, h⟩
      · exact Or.inr ⟨v, List.mem_cons_of_mem _ h1, h2⟩
    · rintro (h | ⟨v, h1, h2⟩)
      · exact Or.inl (Or.inl h)
      · rcases List.mem_cons.mp h1 with rfl | h1
        · exact Or.inl (Or.inr h2)
        · exact Or.inr ⟨v, h1, h2⟩
theorem bit3 {c j : Nat} (hc : c < 8) (hj : 3 ≤ j) : c.testBit j = false := Nat.testBit_lt_two_pow (Nat.lt_of_lt_of_le hc (Nat.pow_le_pow_right (n := 2) (by decide) hj))
theorem pack_d {set v : Nat} {row : List Nat} (hr : rowOk (mems set).length row) (hv : v ∈ mems set) : pack (mems set) row / 2 ^ (v * 3) % 8 = cellOf (mems set) row v := by
  have hn := mems_len set
  have hc : ∀ u, u ∈ mems set → cellOf (mems set) row u < 8 := by
    intro u hu
    obtain ⟨i1, -⟩ := idx_getD hu
    have := row_lt hr i1
    unfold cellOf
    omega
  apply Nat.eq_of_testBit_eq
  intro j
  rw [show (8 : Nat) = 2 ^ 3 from rfl, Nat.testBit_mod_two_pow, Nat.testBit_div_two_pow]
  by_cases hj : j < 3
  · rw [decide_eq_true hj, Bool.true_and, Bool.eq_iff_iff]
    unfold pack
    rw [pack_b]
    constructor
    · rintro (h | ⟨u, u1, u2⟩)
      · simp at h
      · rw [mul8_bit, Bool.and_eq_true, decide_eq_true_eq] at u2
        rcases Nat.lt_trichotomy u v with q | q | q
        · rw [bit3 (hc u u1) (by omega)] at u2
          exact absurd u2.2 (by decide)
        · subst q
          have := u2.2
          rw [show j + u * 3 - 3 * u = j by omega] at this
          exact this
        · have := u2.1
          omega
    · intro h
      refine Or.inr ⟨v, hv, ?_⟩
      rw [mul8_bit, Bool.and_eq_true, decide_eq_true_eq]
      exact ⟨by omega, by rw [show j + v * 3 - 3 * v = j by omega]; exact h⟩
  · rw [decide_eq_false hj, Bool.false_and, bit3 (hc v hv) (by omega)]
theorem pack_g {set v : Nat} {row : List Nat} (hr : rowOk (mems set).length row) (hv : v ∈ mems set) : ((nI (pack (mems set) row)) >>> ((nI v * (3 : Int32)) &&& 31)) &&& (7 : Int32) = nI (cellOf (mems set) row v) := by
  have h7 := (mems_mem.mp hv).1
  have hp := pack_lt hr
  rw [L3, pk_mul, shrN (by omega) (by omega), pk_andN (k := 3) (Nat.lt_of_le_of_lt (Nat.div_le_self _ _) (by omega)) (by decide), pack_d hr hv]
theorem tg_congr {S : Sn} (hS : SnOk S) {fr fr' : Nat → Nat → Nat} {mem : Nat → Bool} {mode : Bool} (h : ∀ a v, a < 7 → v < 7 → mem a = true → mem v = true → fr a v = fr' a v) : ∀ (k a : Nat), k ≤ sN S → (a = 7 ∨ (a < 7 ∧ mem a = true)) → py S fr mem mode k a = py S fr' mem mode k a ∧ tg S fr mem mode k a = tg S fr' mem mode k a := by
  have hpy : ∀ (k a : Nat), k ≤ sN S → (a = 7 ∨ (a < 7 ∧ mem a = true)) → py S fr mem mode k a = py S fr' mem mode k a := by
    intro k a hk ha
    rw [py_pyG, py_pyG]
    exact pyG_congr hS h (fun _ _ => rfl) (fun _ _ => rfl) k a hk ha
  intro k
  induction k with
  | zero => intro a _ _; exact ⟨rfl, rfl⟩
  | succ k ih =>
    intro a hk ha
    refine ⟨hpy _ _ hk ha, ?_⟩
    have hs : sN S - (k + 1) < sN S := by omega
    obtain ⟨f1, f2⟩ := wk_congr h (sq S (sN S - (k + 1)) false) a (fun v hv => sq_lt hS hs hv) ha
    obtain ⟨t1, t2⟩ := wk_congr h (sq S (sN S - (k + 1)) true) a (fun v hv => sq_lt hS hs hv) ha
    rw [tg_s, tg_s, hpy _ _ hk ha]
    unfold ext
    rw [f1, t1, hpy _ _ (by omega) f2, (ih _ (by omega) f2).2, (ih _ (by omega) t2).2]
theorem tg_none {S : Sn} {fr : Nat → Nat → Nat} {mem : Nat → Bool} {mode : Bool} (h : ∀ v, mem v = false) : ∀ k a, tg S fr mem mode k a = 0 := by
  intro k
  induction k with
  | zero => intro a; rfl
  | succ k ih =>
    intro a
    rw [tg_s, py_none h]
    unfold ext
    rw [wk_none _ (fun v _ => h v), py_none h, if_pos rfl]
    exact ih _
-- listing
theorem lu_lp {st : St} {set : Nat} (hs : set < 128) : ∀ (m v : Nat) (g : Nat → Int32), v ≤ 7 → 7 - v < m → (∀ k, k < (msK set v).length → g k = nI ((msK set v).getD k 0)) → ∃ g' : Nat → Int32, lp_X3_listUsed_15 (nI set) m (nI v) (up (upr st 64 g) 32 9 (nI (msK set v).length)) = some (up (upr st 64 g') 32 9 (nI (mems set).length)) ∧ ∀ k, k < (mems set).length → g' k = nI ((mems set).getD k 0) := by
  intro m
  induction m with
  | zero => intro v g h1 h2; omega
  | succ m ih =>
    intro v g h1 h2 h3
    change ∃ g' : Nat → Int32, lpB_X3_listUsed_15 (nI set) (lp_X3_listUsed_15 (nI set) m) (nI v) _ = _ ∧ _
    unfold lpB_X3_listUsed_15
    by_cases hv : v = 7
    · subst hv
      rw [if_pos (by decide)]
      exact ⟨g, rfl, h3⟩
    · rw [if_neg (by rw [L7]; exact nI_ge (by omega) (by decide)), bit_s (by omega) (by omega)]
      have hl := msK_len set v
      have hi := ih (v + 1)
      rw [msK_s] at hi
      cases hb : set.testBit v with
      | false =>
        rw [if_pos (by rfl), lt_eq, nI_1]
        rw [if_neg (by rw [hb]; decide)] at hi
        exact hi g (by omega) (by omega) h3
      | true =>
        rw [if_neg (by decide)]
        rw [if_pos hb, List.length_append, List.length_singleton] at hi
        have e4 : ∀ g x, (up (upr st 64 g) 32 9 x) 32 9 = x := fun g x => by rw [up_row, if_pos rfl, upd_app, if_pos rfl]
        have hsw : ∀ (g : Nat → Int32) (x y : Int32) (i : Nat), up (up (upr st 64 g) 32 9 x) 64 i y = up (upr st 64 (upd g i y)) 32 9 x := fun g x y i => up_sw (by decide)
        simp (disch := omega) only [lt_eq, e4, ck_in, nI_clamp, nI_1, hsw, up_up]
        refine hi _ (by omega) (by omega) ?_
        intro k hk
        rw [upd_app]
        by_cases e : k = (msK set v).length
        · rw [if_pos e, e]
          exact congrArg nI getD_a2.symm
        · rw [if_neg e]
          have hk2 : k < (msK set v).length := by omega
          rw [getD_a1 hk2]
          exact h3 k hk2
theorem luX {S : Sn} {st : St} {N : Nat} (hN : 129 ≤ N) (hS : SnOk S) (hc : ClsRep 1 S st) : ∃ g : Nat → Int32, F_X3_listUsed N st = some (up (upr st 64 g) 32 9 (nI (mems (usedS S)).length)) ∧ ∀ k, k < (mems (usedS S)).length → g k = nI ((mems (usedS S)).getD k 0) := by
  obtain ⟨g, a1, a2⟩ := lu_lp (st := st) (used_lt hS) N 0 (st 64) (by omega) (by omega) (fun k hk => by simp [msK] at hk)
  rw [upr_id] at a1
  refine ⟨g, ?_, a2⟩
  unfold F_X3_listUsed
  rw [usedX (by omega) hS hc, bs_s, lt_eq, lt_eq, lt_eq]
  exact a1
-- writing
theorem wr41 {S : Sn} {mode : Bool} {st : St} {g set pl : Nat} {G0 C0 : Nat → Int32} (hpl : 38 ≤ pl) (hpl2 : pl ≤ 53) (hset : set < 128) (h12 : st 32 12 = bi mode) (hlay : 0 < set → st (60 + mode.toNat) set = nI (pack (mems set) (opt S set mode).2)) (K : St → Option St) : ∀ (m v : Nat) (G C : Nat → Int32), v ≤ 7 → 7 - v < m → (∀ u, u < 7 → G u = (if u < v ∧ set.testBit u = true then nI g else G0 u) ∧ C u = (if u < v ∧ set.testBit u = true then nI (cellOf (mems set) (opt S set mode).2 u) else C0 u)) → ∃ G' C' : Nat → Int32, lp_X3_write_41 (nI g) (nI set) pl K m (nI v) (upr (upr st (pl + 1) G) (pl + 2) C) = K (upr (upr st (pl + 1) G') (pl + 2) C') ∧ ∀ u, u < 7 → G' u = (if set.testBit u = true then nI g else G0 u) ∧ C' u = (if set.testBit u = true then nI (cellOf (mems set) (opt S set mode).2 u) else C0 u) := by
  have hmm : mode.toNat < 2 := by cases mode <;> decide
  intro m
  induction m with
  | zero => intro v G C h1 h2; omega
  | succ m ih =>
    intro v G C h1 h2 h3
    change ∃ G' C' : Nat → Int32, lpB_X3_write_41 (nI g) (nI set) pl K (lp_X3_write_41 (nI g) (nI set) pl K m) (nI v) _ = _ ∧ _
    unfold lpB_X3_write_41
    by_cases hv : v = 7
    · subst hv
      rw [if_pos (by decide)]
      refine ⟨G, C, rfl, fun u hu => ?_⟩
      have := h3 u hu
      simp only [hu, true_and] at this
      exact this
    · rw [if_neg (by rw [L7]; exact nI_ge (by omega) (by decide)), bit_s (by omega) (by omega)]
      cases hb : set.testBit v with
      | false =>
        rw [if_pos (by rfl), lt_eq, nI_1]
        refine ih (v + 1) G C (by omega) (by omega) ?_
        intro u hu
        have := h3 u hu
        by_cases e : u = v
        · subst e
          simp only [hb] at this ⊢
          simpa using this
        · have e2 : (u < v + 1) = (u < v) := by apply propext; omega
          simp only [e2]
          exact this
      | true =>
        have h0 : 0 < set := by
          rcases Nat.eq_zero_or_pos set with h | h
          · rw [h] at hb; simp at hb
          · exact h
        have hsw : ∀ (G C : Nat → Int32) (x : Int32), up (upr (upr st (pl + 1) G) (pl + 2) C) (pl + 1) v x = upr (upr st (pl + 1) (upd G v x)) (pl + 2) C := fun G C x => upr_sw (by omega)
        have e12 : ∀ (G C : Nat → Int32), (upr (upr st (pl + 1) G) (pl + 2) C) 32 12 = bi mode := fun G C => by rw [upr_app, if_neg (by omega), upr_app, if_neg (by omega)]; exact h12
        have e60 : ∀ (G C : Nat → Int32), (upr (upr st (pl + 1) G) (pl + 2) C) (60 + mode.toNat) = st (60 + mode.toNat) := fun G C => by rw [upr_app, if_neg (by omega), upr_app, if_neg (by omega)]
        have hpg := pack_g (opt_row (S := S) (set := set) (mode := mode)) (mems_mem.mpr ⟨show v < 7 by omega, hb⟩)
        have hl := hlay h0
        rw [if_neg (by decide)]
        simp (disch := omega) only [ck_in, nI_clamp, lt_eq, hsw, e12, inb_bi, ck_t, cl_bi, Nat.one_mul, e60, hl, hpg, nI_1, up_upr]
        refine ih (v + 1) _ _ (by omega) (by omega) ?_
        intro u hu
        rw [upd_app, upd_app]
        by_cases e : u = v
        · subst e
          simp [hb]
        · have e2 : (u < v + 1) = (u < v) := by apply propext; omega
          rw [if_neg e, if_neg e]
          simp only [e2]
          exact h3 u hu
theorem wr23 {S : Sn} {mode : Bool} {r N pl fl : Nat} {st : St} (hN : 129 ≤ N) (hr1 : 1 ≤ r) (hr3 : r ≤ 3) (hpl : 38 ≤ pl) (hpl2 : pl ≤ 53) (h12 : st 32 12 = bi mode) (h15 : st 32 15 = nI fl) (hfl : fl ≤ 3) (h63 : ∀ g, g < 3 → st 63 g = nI (blkOf S r mode g)) (hlay : ∀ g, g < fl → st (60 + mode.toNat) (blkOf S r mode g) = nI (pack (mems (blkOf S r mode g)) (opt S (blkOf S r mode g) mode).2)) (K : St → Option St) : ∀ (j m g : Nat) (G C : Nat → Int32), g + j = fl → j < m → (∀ u, u < 7 → ∃ c : Nat, c < 7 ∧ C u = nI c) → (∀ u, u < 7 → (usedS S).testBit u = true → regOf S r mode u < g → G u = nI (regOf S r mode u) ∧ C u = nI (cellP S r mode u)) → ∃ G' C' : Nat → Int32, lp_X3_write_23 N pl K m (nI g) (upr (upr st (pl + 1) G) (pl + 2) C) = K (upr (upr st (pl + 1) G') (pl + 2) C') ∧ (∀ u, u < 7 → ∃ c : Nat, c < 7 ∧ C' u = nI c) ∧ ∀ u, u < 7 → (usedS S).testBit u = true → regOf S r mode u < fl → G' u = nI (regOf S r mode u) ∧ C' u = nI (cellP S r mode u) := by
  intro j
  induction j with
  | zero =>
    intro m g G C h1 h2 hC hG
    obtain ⟨m', rfl⟩ : ∃ m', m = m' + 1 := ⟨m - 1, by omega⟩
    obtain rfl : g = fl := by omega
    refine ⟨G, C, ?_, hC, hG⟩
    change lpB_X3_write_23 N pl K (lp_X3_write_23 N pl K m') (nI g) _ = _
    unfold lpB_X3_write_23
    rw [show (upr (upr st (pl + 1) G) (pl + 2) C) 32 15 = nI g by rw [upr_app, if_neg (by omega), upr_app, if_neg (by omega)]; exact h15, if_pos (nI_le (Nat.le_refl _) (by omega))]
  | succ j ih =>
    intro m g G C h1 h2 hC hG
    obtain ⟨m', rfl⟩ : ∃ m', m = m' + 1 := ⟨m - 1, by omega⟩
    change ∃ G' C' : Nat → Int32, lpB_X3_write_23 N pl K (lp_X3_write_23 N pl K m') (nI g) _ = _ ∧ _
    unfold lpB_X3_write_23
    have hset : blkOf S r mode g < 128 := blk_lt (planA_len hr1 hr3).1
    rw [show (upr (upr st (pl + 1) G) (pl + 2) C) 32 15 = nI fl by rw [upr_app, if_neg (by omega), upr_app, if_neg (by omega)]; exact h15, if_neg (nI_ge (by omega) (by omega)), ck_in (by omega) (by decide), nI_clamp (by omega), show (upr (upr st (pl + 1) G) (pl + 2) C) 63 g = nI (blkOf S r mode g) by rw [upr_app, if_neg (by omega), upr_app, if_neg (by omega)]; exact h63 g (by omega), lt_eq, lt_eq]
    obtain ⟨G1, C1, a1, a2⟩ := wr41 (S := S) (mode := mode) (st := st) (g := g) (G0 := G) (C0 := C) hpl hpl2 hset h12 (fun _ => hlay g (by omega)) (fun (s32 : St) => lt (nI g + (1 : Int32)) (fun (v33 : Int32) => lp_X3_write_23 N pl K m' v33 s32)) N 0 G C (by omega) (by omega) (fun u hu => by simp)
    rw [nI0] at a1
    rw [a1, lt_eq, nI_1]
    refine ih m' (g + 1) G1 C1 (by omega) (by omega) ?_ ?_
    · intro u hu
      rw [(a2 u hu).2]
      cases hb : (blkOf S r mode g).testBit u with
      | false => simp only [if_neg (show ¬ false = true by decide)]; exact hC u hu
      | true => rw [if_pos rfl]; exact ⟨_, opt_cell hu hb, rfl⟩
    · intro u hu hb hr
      rw [(a2 u hu).1, (a2 u hu).2]
      by_cases e : regOf S r mode u = g
      · have hbb := (blkOf_iff (S := S) (mode := mode) hr1 hr3).mpr ⟨hu, hb, e⟩
        rw [if_pos hbb, if_pos hbb, e]
        refine ⟨rfl, ?_⟩
        unfold cellP
        rw [e]
      · have hbb : ¬ (blkOf S r mode g).testBit u = true := fun h => e ((blkOf_iff hr1 hr3).mp h).2.2
        rw [if_neg hbb, if_neg hbb]
        exact hG u hu hb (by omega)
