-- registers by a number
def dg (r : Nat) : Nat → Nat → List Nat
  | 0, _ => []
  | k + 1, x => (x / r ^ k % r) :: dg r k x
theorem asgs_dg : ∀ r, r < 4 → 1 ≤ r → ∀ k, k < 8 → (List.range (r ^ k)).map (dg r k) = asgs r k := by decide +kernel
theorem dg_len (r : Nat) : ∀ k x, (dg r k x).length = k := by
  intro k
  induction k with
  | zero => intro x; rfl
  | succ k ih => intro x; show (dg r k x).length + 1 = k + 1; rw [ih]
theorem dg_get (r : Nat) : ∀ k x j, j < k → (dg r k x).getD j 0 = x / r ^ (k - 1 - j) % r := by
  intro k
  induction k with
  | zero => intro x j h; omega
  | succ k ih =>
    intro x j h
    cases j with
    | zero => rfl
    | succ j =>
      show (dg r k x).getD j 0 = _
      rw [ih x j (by omega), show k + 1 - 1 - (j + 1) = k - 1 - j by omega]
theorem powM_lp {r n : Nat} (hn : n < 8) : ∀ (j m k : Nat), k + j = n → j < m → lp_X8_power_4 (nI r) (nI n) m (nI (r ^ k)) (nI k) = some (nI (r ^ n)) := by
  intro j
  induction j with
  | zero =>
    intro m k h1 h2
    obtain ⟨m', rfl⟩ : ∃ m', m = m' + 1 := ⟨m - 1, by omega⟩
    change lpB_X8_power_4 (nI r) (nI n) (lp_X8_power_4 (nI r) (nI n) m') _ (nI k) = _
    unfold lpB_X8_power_4
    rw [if_pos (nI_le (by omega) (by omega)), show k = n by omega]
  | succ j ih =>
    intro m k h1 h2
    obtain ⟨m', rfl⟩ : ∃ m', m = m' + 1 := ⟨m - 1, by omega⟩
    change lpB_X8_power_4 (nI r) (nI n) (lp_X8_power_4 (nI r) (nI n) m') _ (nI k) = _
    unfold lpB_X8_power_4
    rw [if_neg (nI_ge (by omega) (by omega)), lt_eq, lt_eq, pk_mul, nI_1, ← Nat.pow_succ]
    exact ih m' (k + 1) (by omega) (by omega)
theorem powM {r n N : Nat} (hN : 8 ≤ N) (hn : n < 8) : F_X8_power N (nI r) (nI n) = some (nI (r ^ n)) := powM_lp hn n N 0 (by omega) (by omega)
/-- the register of a used variable -/
def rgX (used r x u : Nat) : Nat := x / r ^ (popK used 7 - 1 - popK used u) % r
/-- the set of those from v on that have the register g -/
def sX (used r x g : Nat) : Nat → Nat
  | 0 => 0
  | d + 1 => if used.testBit (6 - d) ∧ rgX used r x (6 - d) = g then sX used r x g d ||| 2 ^ (6 - d) else sX used r x g d
theorem sX_s {used r x g d : Nat} : sX used r x g (d + 1) = if used.testBit (6 - d) ∧ rgX used r x (6 - d) = g then sX used r x g d ||| 2 ^ (6 - d) else sX used r x g d := rfl
theorem popK_mono (n : Nat) : ∀ d k, popK n k ≤ popK n (k + d) := by
  intro d
  induction d with
  | zero => intro k; exact Nat.le_refl _
  | succ d ih =>
    intro k
    have := ih k
    have h2 := popK_s n (k + d)
    rw [show k + (d + 1) = k + d + 1 from rfl]
    omega
theorem partZ {st : St} (K : St → Option St) : ∀ (m i : Nat) (g : Nat → Int32), i ≤ 3 → 3 - i < m → (∀ c, c < i → g c = 0) → ∃ g' : Nat → Int32, lp_X8_part_6 K m (nI i) (upr st 87 g) = K (upr st 87 g') ∧ ∀ c, c < 3 → g' c = 0 := by
  intro m
  induction m with
  | zero => intro i g h1 h2; omega
  | succ m ih =>
    intro i g h1 h2 h3
    change ∃ g' : Nat → Int32, lpB_X8_part_6 K (lp_X8_part_6 K m) (nI i) (upr st 87 g) = _ ∧ _
    unfold lpB_X8_part_6
    by_cases hi : i = 3
    · subst hi
      rw [if_pos (by decide)]
      exact ⟨g, rfl, h3⟩
    · rw [if_neg (by rw [L3]; exact nI_ge (by omega) (by decide))]
      simp (disch := omega) only [lt_eq, ck_in, nI_clamp, nI_1, up_upr]
      exact ih (i + 1) _ (by omega) (by omega) (by
        intro c hc
        rw [upd_app]
        split
        · rfl
        · exact h3 c (by omega))
theorem part_lp {st : St} {used r x : Nat} (hu : used < 128) (hr1 : 1 ≤ r) (hr3 : r ≤ 3) (hx : x < 5000) : ∀ (v m : Nat) (g h : Nat → Int32), v ≤ 7 → v < m → (∀ u, v ≤ u → u < 7 → used.testBit u = true → g u = nI (rgX used r x u)) → (∀ q, q < 3 → h q = nI (sX used r x q (7 - v))) → ∃ g' h' : Nat → Int32, lp_X8_part_30 (nI used) (nI r) m (nI (x / r ^ (popK used 7 - popK used v))) (nI v - 1) (upr (upr st 86 g) 87 h) = some (upr (upr st 86 g') 87 h') ∧ (∀ u, u < 7 → used.testBit u = true → g' u = nI (rgX used r x u)) ∧ ∀ q, q < 3 → h' q = nI (sX used r x q 7) := by
  intro v
  induction v with
  | zero =>
    intro m g h h1 h2 h3 h4
    obtain ⟨m', rfl⟩ : ∃ m', m = m' + 1 := ⟨m - 1, by omega⟩
    change ∃ g' h' : Nat → Int32, lpB_X8_part_30 (nI used) (nI r) (lp_X8_part_30 (nI used) (nI r) m') (nI (x / r ^ (popK used 7 - popK used 0))) (nI 0 - 1) (upr (upr st 86 g) 87 h) = _ ∧ _
    unfold lpB_X8_part_30
    rw [if_pos (by decide)]
    exact ⟨g, h, rfl, fun u hu hb => h3 u (by omega) hu hb, h4⟩
  | succ v ih =>
    intro m g h h1 h2 h3 h4
    obtain ⟨m', rfl⟩ : ∃ m', m = m' + 1 := ⟨m - 1, by omega⟩
    change ∃ g' h' : Nat → Int32, lpB_X8_part_30 (nI used) (nI r) (lp_X8_part_30 (nI used) (nI r) m') (nI (x / r ^ (popK used 7 - popK used (v + 1)))) (nI (v + 1) - 1) (upr (upr st 86 g) 87 h) = _ ∧ _
    rw [nI_pred]
    unfold lpB_X8_part_30
    rw [if_neg (nI_pos (by omega)), hasM (by omega) (by omega), bs_s]
    have hps := popK_s used v
    have hle := popK_mono used (7 - (v + 1)) (v + 1)
    rw [show v + 1 + (7 - (v + 1)) = 7 by omega] at hle
    have hd : 7 - v = (7 - (v + 1)) + 1 := by omega
    have hd6 : 6 - (7 - (v + 1)) = v := by omega
    cases hb : used.testBit v with
    | false =>
      rw [hb, if_neg (by decide), Nat.add_zero] at hps
      rw [if_pos (by rfl), lt_eq, ← Int32.sub_eq_add_neg, hps]
      refine ih m' g h (by omega) (by omega) ?_ ?_
      · intro u u1 u2 u3
        by_cases e : u = v
        · rw [e, hb] at u3; cases u3
        · exact h3 u (by omega) u2 u3
      · intro q hq
        rw [h4 q hq, hd, sX_s, hd6, if_neg (by rw [hb]; simp)]
    | true =>
      rw [hb, if_pos rfl] at hps
      rw [if_neg (by decide)]
      have hrg : rgX used r x v = x / r ^ (popK used 7 - popK used (v + 1)) % r := by
        unfold rgX
        rw [show popK used 7 - 1 - popK used v = popK used 7 - popK used (v + 1) by omega]
      have hnx : x / r ^ (popK used 7 - popK used (v + 1)) / r = x / r ^ (popK used 7 - popK used v) := by
        rw [Nat.div_div_eq_div_mul, ← Nat.pow_succ, show (popK used 7 - popK used (v + 1)).succ = popK used 7 - popK used v by omega]
      have hlx : x / r ^ (popK used 7 - popK used (v + 1)) ≤ x := Nat.div_le_self _ _
      generalize x / r ^ (popK used 7 - popK used (v + 1)) = L at *
      have e1 : nI L - nI L / nI r * nI r = nI (L % r) := pk_rem (by omega) (by omega) (by omega)
      have e2 : nI L / nI r = nI (L / r) := pk_div (by omega) (by omega) (by omega)
      have hLr : L % r < r := Nat.mod_lt _ (by omega)
      have er : nI r ≠ 0 := nI_ne0 (by omega) (by omega)
      rw [e1, e2]
      simp only [ck_d er]
      have hsh := shl1 v (by omega)
      have r87 : ∀ g h, (upr (upr st 86 g) 87 h) 87 = h := fun g h => by rw [upr_app, if_pos rfl]
      have hsw : up (upr (upr st 86 g) 87 h) 86 v (nI (L % r)) = upr (upr st 86 (upd g v (nI (L % r)))) 87 h := upr_sw (by decide)
      simp (disch := omega) only [lt_eq, ck_in, nI_clamp, hsw, r87, h4, hsh, nI_or, up_upr]
      rw [← Int32.sub_eq_add_neg, hnx]
      refine ih m' _ _ (by omega) (by omega) ?_ ?_
      · intro u u1 u2 u3
        rw [upd_app]
        by_cases e : u = v
        · rw [if_pos e, e, hrg]
        · rw [if_neg e]; exact h3 u (by omega) u2 u3
      · intro q hq
        rw [upd_app, hd, sX_s, hd6]
        by_cases e : q = L % r
        · rw [if_pos e, if_pos ⟨hb, by rw [hrg, e]⟩, ← e]
        · rw [if_neg e, if_neg (by rw [hrg]; intro c; exact e c.2.symm)]
          exact h4 q hq
theorem sX_bit {used r x g w : Nat} (hw : w < 7) : ∀ d, d ≤ 7 → ((sX used r x g d).testBit w = true ↔ (7 ≤ w + d ∧ used.testBit w = true ∧ rgX used r x w = g)) := by
  intro d
  induction d with
  | zero => intro _; simp [sX]; omega
  | succ d ih =>
    intro hd
    have hi := ih (by omega)
    unfold sX
    by_cases e : w = 6 - d
    · by_cases c : used.testBit (6 - d) = true ∧ rgX used r x (6 - d) = g
      · rw [if_pos c, Nat.testBit_or, Nat.testBit_two_pow]
        have c2 : used.testBit w = true ∧ rgX used r x w = g := by rw [e]; exact c
        simp [e]
        exact ⟨by omega, c⟩
      · rw [if_neg c, hi]
        rw [e]
        constructor
        · intro q; exact absurd q.2 c
        · intro q; exact absurd q.2 c
    · have hstep : (if used.testBit (6 - d) = true ∧ rgX used r x (6 - d) = g then sX used r x g d ||| 2 ^ (6 - d) else sX used r x g d).testBit w = (sX used r x g d).testBit w := by
        split
        · rw [Nat.testBit_or, Nat.testBit_two_pow, decide_eq_false (by omega), Bool.or_false]
        · rfl
      rw [hstep, hi]
      constructor
      · intro q; exact ⟨by omega, q.2⟩
      · intro q; exact ⟨by omega, q.2⟩
theorem sX_lt {used r x g : Nat} : ∀ d, sX used r x g d < 128 := by
  intro d
  induction d with
  | zero => show 0 < 128; decide
  | succ d ih =>
    unfold sX
    split
    · exact or128 ih (pow7 (by omega))
    · exact ih
theorem popK_idx {n v : Nat} (hv : v < 7) (hb : n.testBit v = true) : (mems n).idxOf v = popK n v ∧ popK n v < (mems n).length := by
  have hsplit : mems n = msK n v ++ (v :: ((List.range' (v + 1) (6 - v)).filter (fun u => n.testBit u))) := by
    unfold mems msK
    have : List.range 7 = List.range v ++ (v :: List.range' (v + 1) (6 - v)) := by
      have : ∀ v, v < 7 → List.range 7 = List.range v ++ (v :: List.range' (v + 1) (6 - v)) := by decide
      exact this v hv
    rw [this, List.filter_append, List.filter_cons, if_pos hb]
  have hnot : v ∉ msK n v := by
    unfold msK
    rw [List.mem_filter, List.mem_range]
    omega
  constructor
  · rw [hsplit, List.idxOf_append, if_neg hnot, List.idxOf_cons_self, Nat.zero_add]
    rfl
  · rw [hsplit, List.length_append, List.length_cons]
    show (msK n v).length < _
    omega
theorem rgX_dg {used r x v : Nat} (hv : v < 7) (hb : used.testBit v = true) : rgX used r x v = cellOf (mems used) (dg r (mems used).length x) v := by
  obtain ⟨h1, h2⟩ := popK_idx hv hb
  unfold cellOf
  rw [h1, dg_get _ _ _ _ h2]
  rfl
theorem blk_bit {us asg : List Nat} {g w : Nat} : ∀ (l : List (Nat × Nat)) (u : Nat), (((l.filter (fun q => q.2 == g)).foldl (fun u q => u ||| 2 ^ q.1) u).testBit w = true ↔ (u.testBit w = true ∨ ∃ q, q ∈ l ∧ q.2 = g ∧ q.1 = w)) := by
  intro l
  induction l with
  | nil => intro u; simp
  | cons y ys ih =>
    intro u
    rw [List.filter_cons]
    by_cases hy : (y.2 == g) = true
    · rw [if_pos hy, List.foldl_cons, ih, Nat.testBit_or, Nat.testBit_two_pow, Bool.or_eq_true, decide_eq_true_eq]
      have hy2 : y.2 = g := by simpa using hy
      constructor
      · rintro ((h | h) | ⟨q, q1, q2, q3⟩)
        · exact Or.inl h
        · exact Or.inr ⟨y, List.mem_cons_self, hy2, h⟩
        · exact Or.inr ⟨q, List.mem_cons_of_mem _ q1, q2, q3⟩
      · rintro (h | ⟨q, q1, q2, q3⟩)
        · exact Or.inl (Or.inl h)
        · rcases List.mem_cons.mp q1 with rfl | q1
          · exact Or.inl (Or.inr q3)
          · exact Or.inr ⟨q, q1, q2, q3⟩
    · rw [if_neg hy, ih]
      constructor
      · rintro (h | ⟨q, q1, q2, q3⟩)
        · exact Or.inl h
        · exact Or.inr ⟨q, List.mem_cons_of_mem _ q1, q2, q3⟩
      · rintro (h | ⟨q, q1, q2, q3⟩)
        · exact Or.inl h
        · rcases List.mem_cons.mp q1 with rfl | q1
          · exact absurd (by simpa using q2) hy
          · exact Or.inr ⟨q, q1, q2, q3⟩
theorem zip_mem {us asg : List Nat} {a b : Nat} (hl : asg.length = us.length) : (a, b) ∈ us.zip asg ↔ ∃ j, j < us.length ∧ us.getD j 0 = a ∧ asg.getD j 0 = b := by
  rw [List.mem_iff_getElem?]
  constructor
  · rintro ⟨j, hj⟩
    rw [List.getElem?_zip_eq_some] at hj
    obtain ⟨h1, h2⟩ := hj
    have hlt := (List.getElem?_eq_some_iff.mp h1).1
    refine ⟨j, hlt, ?_, ?_⟩
    · rw [List.getD_eq_getElem?_getD, h1]; rfl
    · rw [List.getD_eq_getElem?_getD, h2]; rfl
  · rintro ⟨j, hj, h1, h2⟩
    refine ⟨j, ?_⟩
    rw [List.getElem?_zip_eq_some]
    rw [List.getD_eq_getElem?_getD, List.getElem?_eq_getElem hj] at h1
    rw [List.getD_eq_getElem?_getD, List.getElem?_eq_getElem (by omega)] at h2
    exact ⟨by rw [List.getElem?_eq_getElem hj]; exact congrArg some h1, by rw [List.getElem?_eq_getElem (by omega)]; exact congrArg some h2⟩
/-- who has the register g -/
theorem blk_iff {used g w : Nat} {asg : List Nat} (hl : asg.length = (mems used).length) : ((blk (mems used) asg g).testBit w = true ↔ (w < 7 ∧ used.testBit w = true ∧ cellOf (mems used) asg w = g)) := by
  unfold blk
  rw [blk_bit (us := mems used) (asg := asg)]
  constructor
  · rintro (h | ⟨q, q1, q2, q3⟩)
    · simp at h
    · rw [show q = (q.1, q.2) from rfl, zip_mem hl] at q1
      obtain ⟨j, j1, j2, j3⟩ := q1
      rw [← q3, ← j2]
      refine ⟨mems_lt j1, mems_bit j1, ?_⟩
      unfold cellOf
      obtain ⟨i1, i2⟩ := idx_getD (getD_mem j1)
      rw [mems_inj i1 j1 i2, j3, q2]
  · rintro ⟨h1, h2, h3⟩
    obtain ⟨i1, i2⟩ := idx_getD (mems_mem.mpr ⟨h1, h2⟩)
    exact Or.inr ⟨(w, g), by rw [zip_mem hl]; exact ⟨_, i1, i2, h3⟩, rfl, rfl⟩
theorem blk_lt {used g : Nat} {asg : List Nat} (hl : asg.length = (mems used).length) : blk (mems used) asg g < 128 := by
  apply Nat.lt_of_not_le
  intro h
  obtain ⟨i, i1, i2⟩ := Nat.exists_ge_and_testBit_of_ge_two_pow (n := 7) h
  have := (blk_iff hl).mp i2
  omega
theorem sX_blk {used r x g : Nat} : sX used r x g 7 = blk (mems used) (dg r (mems used).length x) g := by
  have hl := dg_len r (mems used).length x
  apply Nat.eq_of_testBit_eq
  intro w
  by_cases hw : w < 7
  · rw [Bool.eq_iff_iff, sX_bit hw 7 (by omega), blk_iff hl]
    constructor
    · rintro ⟨-, h2, h3⟩
      exact ⟨hw, h2, by rw [← rgX_dg hw h2]; exact h3⟩
    · rintro ⟨-, h2, h3⟩
      exact ⟨by omega, h2, by rw [rgX_dg hw h2]; exact h3⟩
  · rw [Nat.testBit_lt_two_pow (Nat.lt_of_lt_of_le (sX_lt 7) (Nat.pow_le_pow_right (n := 2) (by decide) (show 7 ≤ w by omega))), Nat.testBit_lt_two_pow (Nat.lt_of_lt_of_le (blk_lt hl) (Nat.pow_le_pow_right (n := 2) (by decide) (show 7 ≤ w by omega)))]
theorem partM {st : St} {used r x N : Nat} (hN : 129 ≤ N) (hu : used < 128) (hr1 : 1 ≤ r) (hr3 : r ≤ 3) (hx : x < 5000) : ∃ g h : Nat → Int32, F_X8_part N (nI used) (nI r) (nI x) st = some (upr (upr st 86 g) 87 h) ∧ (∀ u, u < 7 → used.testBit u = true → g u = nI (cellOf (mems used) (dg r (mems used).length x) u)) ∧ ∀ q, q < 3 → h q = nI (blk (mems used) (dg r (mems used).length x) q) := by
  obtain ⟨g0, a1, a2⟩ := partZ (st := st) (fun (s25 : St) => lt (6 : Int32) (fun (v26 : Int32) => lp_X8_part_30 (nI used) (nI r) N (nI x) v26 s25)) N 0 (st 87) (by omega) (by omega) (fun c hc => by omega)
  rw [upr_id, nI0] at a1
  have e86 : upr (upr st 86 (st 86)) 87 g0 = upr st 87 g0 := by rw [upr_id]
  obtain ⟨g, h, b1, b2, b3⟩ := part_lp (st := st) hu hr1 hr3 hx 7 N (st 86) g0 (by omega) (by omega) (fun u h1 h2 => by omega) (fun q hq => by rw [a2 q hq]; rfl)
  rw [e86, Nat.sub_self, Nat.pow_zero, Nat.div_one] at b1
  refine ⟨g, h, ?_, ?_, ?_⟩
  · unfold F_X8_part
    rw [lt_eq, lt_eq, a1, lt_eq]
    exact b1
  · intro u h1 h2
    rw [b2 u h1 h2, rgX_dg h1 h2]
  · intro q hq
    rw [b3 q hq, sX_blk]
