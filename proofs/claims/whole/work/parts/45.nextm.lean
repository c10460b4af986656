theorem fI_s {f : Nat → Nat} : ∀ k i, fI f k = some i → i < k ∧ f i ≤ f (i + 1) := by
  intro k
  induction k with
  | zero => intro i h; cases h
  | succ k ih =>
    intro i h
    by_cases hk : f (k + 1) < f k
    · rw [show fI f (k + 1) = fI f k from if_pos hk] at h
      have := ih i h
      exact ⟨by omega, this.2⟩
    · rw [show fI f (k + 1) = some k from if_neg hk] at h
      cases h
      exact ⟨by omega, by omega⟩
theorem fJ_le (f : Nat → Nat) (x : Nat) : ∀ k, fJ f x k ≤ k := by
  intro k
  induction k with
  | zero => exact Nat.le_refl _
  | succ k ih =>
    unfold fJ
    split <;> omega
theorem swapM {st : St} {f : Nat → Nat} {n i j : Nat} {g : Nat → Int32} (hn : n ≤ 7) (hi : i < n) (hj : j < n) (hg : ∀ k, k < n → g k = nI (f k)) : ∃ g' : Nat → Int32, F_X8_swap (nI i) (nI j) (upr st 85 g) = some (upr st 85 g') ∧ ∀ k, k < n → g' k = nI (swF f i j k) := by
  refine ⟨upd (upd g i (g j)) j (g i), ?_, ?_⟩
  · unfold F_X8_swap
    have r85 : ∀ g, (upr st 85 g) 85 = g := fun g => by rw [upr_app, if_pos rfl]
    simp (disch := omega) only [lt_eq, ck_in, nI_clamp, up_upr, r85]
  · intro k hk
    unfold swF
    rw [upd_app, upd_app]
    by_cases e1 : k = j
    · rw [if_pos e1, if_pos e1]; exact hg i hi
    · rw [if_neg e1, if_neg e1]
      by_cases e2 : k = i
      · rw [if_pos e2, if_pos e2]; exact hg j hj
      · rw [if_neg e2, if_neg e2]; exact hg k hk
theorem rvM {st : St} {n : Nat} (hn : n ≤ 7) : ∀ (r m lo hi : Nat) (f : Nat → Nat) (g : Nat → Int32), hi - lo ≤ r → r < m → hi < n → lo ≤ n → (∀ k, k < n → g k = nI (f k)) → ∃ g' : Nat → Int32, lp_X8_isNext_78 m (nI lo) (nI hi) (upr st 85 g) = some (1, upr st 85 g') ∧ ∀ k, k < n → g' k = nI (rvF r lo hi f k) := by
  intro r
  induction r with
  | zero =>
    intro m lo hi f g h1 h2 h3 hlo hg
    obtain ⟨m', rfl⟩ : ∃ m', m = m' + 1 := ⟨m - 1, by omega⟩
    refine ⟨g, ?_, hg⟩
    change lpB_X8_isNext_78 (lp_X8_isNext_78 m') (nI lo) (nI hi) (upr st 85 g) = _
    unfold lpB_X8_isNext_78
    rw [if_pos (nI_le (by omega) (by omega))]
  | succ r ih =>
    intro m lo hi f g h1 h2 h3 hlo hg
    obtain ⟨m', rfl⟩ : ∃ m', m = m' + 1 := ⟨m - 1, by omega⟩
    change ∃ g' : Nat → Int32, lpB_X8_isNext_78 (lp_X8_isNext_78 m') (nI lo) (nI hi) (upr st 85 g) = _ ∧ _
    unfold lpB_X8_isNext_78 rvF
    by_cases h : hi ≤ lo
    · rw [if_pos (nI_le h (by omega)), if_pos h]
      exact ⟨g, rfl, hg⟩
    · rw [if_neg (nI_ge (by omega) (by omega)), if_neg h]
      obtain ⟨g1, a1, a2⟩ := swapM (st := st) (i := lo) (j := hi) hn (by omega) h3 hg
      rw [a1, bs_s, lt_eq, lt_eq, nI_1]
      obtain ⟨q, rfl⟩ : ∃ q, hi = q + 1 := ⟨hi - 1, by omega⟩
      rw [Lm1]
      exact ih m' (lo + 1) q _ g1 (by omega) (by omega) (by omega) (by omega) a2
theorem fJM {st : St} {f : Nat → Nat} {n i : Nat} (hn : n ≤ 7) (hi : i < n) (hr : ∀ k, k < n → st 85 k = nI (f k)) (hb : ∀ k, k < n → f k < 7) (K : Int32 → Option (Int32 × St)) : ∀ (k m : Nat), k < n → k < m → (∃ q, q ≤ k ∧ f i ≤ f q) → lp_X8_isNext_41 (nI i) st K m (nI k) = K (nI (fJ f (f i) k)) := by
  intro k
  have hfi := hb i hi
  induction k with
  | zero =>
    intro m h1 h2 ⟨q, q1, q2⟩
    obtain ⟨m', rfl⟩ : ∃ m', m = m' + 1 := ⟨m - 1, by omega⟩
    obtain rfl : q = 0 := by omega
    have := hb 0 h1
    change lpB_X8_isNext_41 (nI i) st K (lp_X8_isNext_41 (nI i) st K m') (nI 0) = _
    unfold lpB_X8_isNext_41
    simp (disch := omega) only [ck_in, nI_clamp, hr]
    rw [if_pos ((nI_leI (by omega) (by omega)).mpr q2)]
    rfl
  | succ k ih =>
    intro m h1 h2 ⟨q, q1, q2⟩
    obtain ⟨m', rfl⟩ : ∃ m', m = m' + 1 := ⟨m - 1, by omega⟩
    have := hb (k + 1) h1
    change lpB_X8_isNext_41 (nI i) st K (lp_X8_isNext_41 (nI i) st K m') (nI (k + 1)) = _
    unfold lpB_X8_isNext_41 fJ
    simp (disch := omega) only [ck_in, nI_clamp, hr]
    by_cases h : f (k + 1) < f i
    · rw [if_neg (by rw [nI_leI (by omega) (by omega)]; omega), if_pos h, lt_eq, Lm1]
      refine ih m' (by omega) (by omega) ⟨q, ?_, q2⟩
      by_cases e : q = k + 1
      · rw [e] at q2; omega
      · omega
    · rw [if_pos ((nI_leI (by omega) (by omega)).mpr (by omega)), if_neg h]
theorem fIM {st : St} {f : Nat → Nat} {n : Nat} (hn : n ≤ 7) (hr : ∀ k, k < n → st 85 k = nI (f k)) (hb : ∀ k, k < n → f k < 7) (K : Int32 → Option (Int32 × St)) : ∀ (k m : Nat), k < n → k < m → lp_X8_isNext_4 st K m (nI k - 1) = K (match fI f k with
    | none => -1
    | some i => nI i) := by
  intro k
  induction k with
  | zero =>
    intro m h1 h2
    obtain ⟨m', rfl⟩ : ∃ m', m = m' + 1 := ⟨m - 1, by omega⟩
    change lpB_X8_isNext_4 st K (lp_X8_isNext_4 st K m') (nI 0 - 1) = _
    unfold lpB_X8_isNext_4
    rw [if_pos (by decide)]
    rfl
  | succ k ih =>
    intro m h1 h2
    obtain ⟨m', rfl⟩ : ∃ m', m = m' + 1 := ⟨m - 1, by omega⟩
    have := hb (k + 1) h1
    have := hb k (by omega)
    change lpB_X8_isNext_4 st K (lp_X8_isNext_4 st K m') (nI (k + 1) - 1) = _
    rw [nI_pred]
    unfold lpB_X8_isNext_4 fI
    rw [if_neg (nI_pos (by omega))]
    simp (disch := omega) only [nI_1, ck_in, nI_clamp, hr]
    by_cases h : f (k + 1) < f k
    · rw [if_neg (by rw [nI_leI (by omega) (by omega)]; omega), if_pos h, lt_eq, ← Int32.sub_eq_add_neg]
      exact ih m' (by omega) (by omega)
    · rw [if_pos ((nI_leI (by omega) (by omega)).mpr (by omega)), if_neg h]
theorem isNextM {st : St} {f : Nat → Nat} {n N : Nat} (hN : 129 ≤ N) (h1 : 1 ≤ n) (hn : n ≤ 7) (hr : ∀ k, k < n → st 85 k = nI (f k)) (hb : ∀ k, k < n → f k < 7) : (nxF n f = none → F_X8_isNext N (nI n) st = some (0, st)) ∧ ∀ f', nxF n f = some f' → ∃ g' : Nat → Int32, F_X8_isNext N (nI n) st = some (1, upr st 85 g') ∧ ∀ k, k < n → g' k = nI (f' k) := by
  obtain ⟨q, rfl⟩ : ∃ q, n = q + 1 := ⟨n - 1, by omega⟩
  have e2 : nI (q + 1) - 2 = nI q - 1 := by
    rw [← nI_pred q, Int32.sub_eq_add_neg, Int32.sub_eq_add_neg, Int32.sub_eq_add_neg, Int32.add_assoc]
    congr 1
  have hF : F_X8_isNext N (nI (q + 1)) st = (fun (v23 : Int32) => (if 0 ≤ v23 then lt (nI (q + 1) - (1 : Int32)) (fun (v24 : Int32) => lp_X8_isNext_41 v23 st (fun (v26 : Int32) => bs (F_X8_swap v23 v26 st) (fun (s27 : St) => lt (v23 + (1 : Int32)) (fun (v28 : Int32) => lt (nI (q + 1) - (1 : Int32)) (fun (v29 : Int32) => lp_X8_isNext_78 N v28 v29 s27)))) N v24) else some ((0 : Int32), st))) (match fI f q with
    | none => -1
    | some i => nI i) := by
    unfold F_X8_isNext
    rw [lt_eq, e2, fIM hn hr hb _ q N (by omega) (by omega)]
  rw [hF]
  unfold nxF
  rw [Nat.add_sub_cancel]
  cases hi : fI f q with
  | none =>
    refine ⟨fun _ => ?_, fun f' h => by cases h⟩
    simp only
    rw [if_neg (by decide)]
  | some i =>
    refine ⟨fun h => (by cases h), fun f' h => ?_⟩
    obtain ⟨i1, i2⟩ := fI_s q i hi
    have hj := fJ_le f (f i) q
    simp only at h ⊢
    rw [if_pos (nI_pos' (by omega)), lt_eq, nI_pred, fJM hn (by omega) hr hb _ q N (by omega) (by omega) ⟨i + 1, by omega, i2⟩]
    obtain ⟨g1, a1, a2⟩ := swapM (st := st) (g := st 85) (i := i) (j := fJ f (f i) q) hn (by omega) (by omega) hr
    rw [upr_id] at a1
    rw [a1, bs_s, lt_eq, lt_eq, nI_1]
    obtain ⟨g2, b1, b2⟩ := rvM (st := st) (n := q + 1) hn 7 N (i + 1) q _ g1 (by omega) (by omega) (by omega) (by omega) a2
    refine ⟨g2, b1, fun k hk => ?_⟩
    rw [b2 k hk, ← Option.some.inj h]
theorem chk_ok : ∀ n, 1 ≤ n → n < 8 → chk n (perms n) = true := by
  intro n h1 h2
  rcases (show n = 1 ∨ n = 2 ∨ n = 3 ∨ n = 4 ∨ n = 5 ∨ n = 6 ∨ n = 7 by omega) with rfl | rfl | rfl | rfl | rfl | rfl | rfl
  · exact chk_1
  · exact chk_2
  · exact chk_3
  · exact chk_4
  · exact chk_5
  · exact chk_6
  · exact chk_7
/-- a row of cells: n of them, below n -/
def rowOk (n : Nat) (l : List Nat) : Prop := l.length = n ∧ ∀ c, c ∈ l → c < n
theorem lvs_ok {n : Nat} : ∀ (k : Nat) (pre : List Nat), pre.length + k = n → (∀ c, c ∈ pre → c < n) → ∀ l, l ∈ lvs n k pre → rowOk n l := by
  intro k
  induction k with
  | zero =>
    intro pre h1 h2 l hl
    rw [show lvs n 0 pre = [pre] from rfl, List.mem_singleton] at hl
    subst hl
    exact ⟨by omega, h2⟩
  | succ k ih =>
    intro pre h1 h2 l hl
    rw [show lvs n (k + 1) pre = (List.range n).flatMap (fun c => if pre.contains c then [] else lvs n k (pre ++ [c])) from rfl, List.mem_flatMap] at hl
    obtain ⟨c, hc, hl⟩ := hl
    split at hl
    · cases hl
    · refine ih (pre ++ [c]) (by rw [List.length_append, List.length_singleton]; omega) ?_ l hl
      intro d hd
      rcases List.mem_append.mp hd with hd | hd
      · exact h2 d hd
      · rw [List.mem_singleton.mp hd]
        exact List.mem_range.mp hc
theorem perms_ok {n : Nat} {l : List Nat} (h : l ∈ perms n) : rowOk n l := lvs_ok n [] (by simp) (fun c hc => by cases hc) l h
theorem row_lt {n k : Nat} {l : List Nat} (h : rowOk n l) (hk : k < n) : l.getD k 0 < n := h.2 _ (getD_mem (by rw [h.1]; exact hk))
theorem perms_hd : ∀ n, 1 ≤ n → n < 8 → ∃ t, perms n = List.range n :: t := by
  intro n h1 h2
  have : ∀ n, n < 8 → 1 ≤ n → (perms n).head? = some (List.range n) := by decide +kernel
  have h := this n h2 h1
  cases hp : perms n with
  | nil => rw [hp] at h; cases h
  | cons x xs =>
    rw [hp] at h
    exact ⟨xs, by rw [Option.some.inj h]⟩
theorem perms_len : ∀ n, n < 8 → (perms n).length ≤ 5040 := by decide +kernel
