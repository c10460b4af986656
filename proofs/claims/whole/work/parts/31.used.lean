def kIds : List Nat := [0, 1, 2, 3, 4, 5, 6, 7, 8, 9, 10, 11, 12, 13, 14, 15, 16, 17, 18, 19, 20, 21, 71, 72, 73, 74, 75, 76, 77, 93, 94]
theorem InvS.kept {S : Sn} {kp : Nat → Bool} {SI : Nat → Sn} {st st' : St} (h : InvS S kp SI st) (h70 : st' 70 0 = st 70 0) (hc : Cache S st') (hk : ∀ k, k ∈ kIds → st' k = st k) : InvS S kp SI st' := by
  obtain ⟨a1, a2, a3, a4, a5, a6, a7⟩ := h
  refine ⟨a1, ?_, ?_, hc, ?_, ?_, ?_⟩
  · exact a2.kept (hk _ (by decide)) (hk _ (by decide)) (hk _ (by decide)) (hk _ (by decide)) (hk _ (by decide)) (hk _ (by decide)) (hk _ (by decide))
  · exact a3.kept h70 (hk _ (by decide)) (hk _ (by decide)) (hk _ (by decide)) (hk _ (by decide)) (hk _ (by decide)) (hk _ (by decide)) (hk _ (by decide))
  · rw [hk 0 (by decide)]; exact a5
  · intro j hj; rw [hk 94 (by decide)]; exact a6 j hj
  · intro j hj hp
    obtain ⟨b1, b2, b3⟩ := a7 j hj hp
    refine ⟨b1, ?_, b3.kept (hk 93 (by decide))⟩
    rcases (show j = 0 ∨ j = 1 by omega) with rfl | rfl
    · exact b2.kept (hk _ (by decide)) (hk _ (by decide)) (hk _ (by decide)) (hk _ (by decide)) (hk _ (by decide)) (hk _ (by decide)) (hk _ (by decide))
    · exact b2.kept (hk _ (by decide)) (hk _ (by decide)) (hk _ (by decide)) (hk _ (by decide)) (hk _ (by decide)) (hk _ (by decide)) (hk _ (by decide))
/-- what a call that only looks may change -/
def sIds : List Nat := [23, 24, 25, 26, 28, 29, 30, 31, 65, 66, 67, 68, 69, 70, 79, 80, 81, 84, 85, 86, 87, 88, 89, 90, 91, 92]
theorem k_s {k : Nat} (h : k ∈ kIds) : k ∉ sIds := by
  simp only [kIds, sIds, List.mem_cons, List.not_mem_nil, or_false, not_or] at *
  omega
theorem c_s {k : Nat} (h : k ∈ cIds) : k ∉ sIds := by
  simp only [cIds, sIds, List.mem_cons, List.not_mem_nil, or_false, not_or] at *
  omega
theorem InvS.look {S : Sn} {kp : Nat → Bool} {SI : Nat → Sn} {st st' : St} (h : InvS S kp SI st) (h70 : st' 70 0 = st 70 0) (hk : ∀ k, k ∉ sIds → st' k = st k) : InvS S kp SI st' := h.kept h70 (h.2.2.2.1.kept (fun k a => hk k (c_s a))) (fun k a => hk k (k_s a))
theorem getD_mem {l : List Nat} {i : Nat} (h : i < l.length) : l.getD i 0 ∈ l := by
  rw [List.getD_eq_getElem?_getD, List.getElem?_eq_getElem h]
  exact List.getElem_mem h
theorem sl_mem {S : Sn} (hS : SnOk S) {t v : Nat} : ∀ k, k ≤ sN S → (v ∈ sl S t k ↔ ∃ s, s < k ∧ (v = sT S s ∨ v = sL S s ∨ v = sR S s)) := by
  intro k
  induction k with
  | zero => intro _; simp [sl]
  | succ k ih =>
    intro hk
    unfold sl
    rw [List.mem_append, ih (by omega), sq_mem (hS.2.1 k (by omega)).2.2.2.2]
    constructor
    · rintro (⟨s, h1, h2⟩ | h)
      · exact ⟨s, by omega, h2⟩
      · exact ⟨k, by omega, h⟩
    · rintro ⟨s, h1, h2⟩
      by_cases e : s = k
      · subst e; exact Or.inr h2
      · exact Or.inl ⟨s, by omega, h2⟩
theorem sl_lt {S : Sn} (hS : SnOk S) {t v : Nat} (h : v ∈ sl S t (sN S)) : v < 7 := by
  obtain ⟨s, h1, h2⟩ := (sl_mem hS _ (Nat.le_refl _)).mp h
  obtain ⟨a, b, c, d, -⟩ := hS.2.1 s h1
  rcases h2 with rfl | rfl | rfl
  · exact b
  · exact c
  · exact d
theorem hasL {l : List Nat} {st : St} (h : LR l st) (hl : l.length ≤ 30) (x : Int32) : (∃ i, i < l.length ∧ x = nI i ∧ F_X4_has x st = some 1) ∨ ((x < 0 ∨ nI l.length ≤ x) ∧ F_X4_has x st = some 0) := by
  rcases ix x l.length (by omega) with ⟨i, hi, rfl⟩ | h2
  · refine Or.inl ⟨i, hi, rfl, ?_⟩
    unfold F_X4_has
    rw [lt_eq, if_neg (nI_pos (by omega)), h.1, if_neg (nI_ge hi (by omega))]
  · refine Or.inr ⟨h2, ?_⟩
    unfold F_X4_has
    rw [lt_eq, h.1]
    rcases h2 with h2 | h2
    · rw [if_pos h2]
    · rw [if_pos h2]
      split <;> rfl
theorem in_len {n : Nat} (hn : n ≤ 30) (x : Int32) : ((∃ i, i < n ∧ x = nI i) → F_X8_in x 0 (nI n - 1) = some 1) ∧ ((x < 0 ∨ nI n ≤ x) → F_X8_in x 0 (nI n - 1) = some 0) := by
  constructor
  · rintro ⟨i, hi, rfl⟩
    obtain ⟨m, rfl⟩ : ∃ m, n = m + 1 := ⟨n - 1, by omega⟩
    rw [nI_pred]
    exact in_t (a := 0) (by omega) (by omega) (by omega)
  · intro h
    rcases n with _ | n
    · rw [in_spec, show nI 0 - 1 = (-1 : Int32) by decide]
      by_cases hx : x < 0
      · rw [if_pos hx]
      · rw [if_neg hx, if_pos (by
          rw [i32_lt, show (0 : Int32).toInt = 0 by decide] at hx
          rw [i32_lt, show (-1 : Int32).toInt = -1 by decide]
          omega)]
    · rw [nI_pred]
      exact in_f h (by omega)
theorem ok_sight {st : St} {N : Nat} (hN : 129 ≤ N) (hI : Inv st) (v1 : Int32) : Ok (F_X7_sight N v1) (F_X8_sight N v1) st := by
  obtain ⟨S, kp, SI, hI⟩ := hI
  have hS := hI.1
  have hlen := sl_len S 0 (sN S)
  have hn10 := hS.1
  obtain ⟨sa, a1, a2, a3⟩ := lookX (N := N) (t := 0) (by omega) hS (by decide) hI.2.1
  have hIa : InvS S kp SI sa := hI.look (by rw [a3 70 (by decide) (by decide)]) (fun k hk => a3 k (by rintro rfl; exact hk (by decide)) (by rintro rfl; exact hk (by decide)))
  obtain ⟨g, b1, b2⟩ := lineM (N := N) (t := 0) (by omega) hS hIa.2.2.1 (by decide)
  have hIb : InvS S kp SI (upr sa 79 g) := hIa.look (by simp [upr_app]) (fun k hk => by rw [upr_app, if_neg (by rintro rfl; exact hk (by decide))])
  rw [nI0] at a1 b1
  rcases hasL a2 (by omega) v1 with ⟨i, hi, rfl, h1⟩ | ⟨h2, h1⟩
  · refine ⟨nI ((sl S 0 (sN S)).getD i 0), sa, upr sa 79 g, ?_, ?_, S, kp, SI, hIb⟩
    · unfold F_X7_sight
      rw [a1, bs_s, h1, bs_s, if_neg e10, ck_in (by omega) (by decide), nI_clamp (by omega), a2.2 i hi]
    · unfold F_X8_sight
      rw [b1, bd_s, (in_len (by omega) (nI i)).1 ⟨i, hi, rfl⟩, bs_s, if_neg e10, ck_in (by omega) (by decide), nI_clamp (by omega), upr_app, if_pos rfl, b2 i hi]
  · refine ⟨-6, sa, upr sa 79 g, ?_, ?_, S, kp, SI, hIb⟩
    · unfold F_X7_sight
      rw [a1, bs_s, h1, bs_s, if_pos (by rfl)]
    · unfold F_X8_sight
      rw [b1, bd_s, (in_len (by omega) v1).2 h2, bs_s, if_pos (by rfl)]
-- used variables
def usedK (S : Sn) : Nat → Nat
  | 0 => 0
  | k + 1 => usedK S k ||| 2 ^ sT S k ||| 2 ^ sL S k ||| 2 ^ sR S k
theorem usedK_eq (S : Sn) : ∀ k, (List.range k).foldl (fun u s => u ||| 2 ^ sT S s ||| 2 ^ sL S s ||| 2 ^ sR S s) 0 = usedK S k := by
  intro k
  induction k with
  | zero => rfl
  | succ k ih =>
    rw [List.range_succ, List.foldl_append, ih]
    rfl
theorem pow7 {v : Nat} (h : v < 7) : 2 ^ v < 128 := by
  have : ∀ v, v < 7 → 2 ^ v < 128 := by decide
  exact this v h
theorem or128 {a b : Nat} (ha : a < 128) (hb : b < 128) : a ||| b < 128 := Nat.or_lt_two_pow (n := 7) ha hb
theorem usedK_lt {S : Sn} (hS : SnOk S) : ∀ k, k ≤ sN S → usedK S k < 128 := by
  intro k
  induction k with
  | zero => intro _; show 0 < 128; decide
  | succ k ih =>
    intro hk
    obtain ⟨a, b, c, d, -⟩ := hS.2.1 k (by omega)
    exact or128 (or128 (or128 (ih (by omega)) (pow7 b)) (pow7 c)) (pow7 d)
theorem used_lt {S : Sn} (hS : SnOk S) : usedS S < 128 := by
  unfold usedS
  rw [usedK_eq]
  exact usedK_lt hS _ (Nat.le_refl _)
theorem usedX_lp {S : Sn} {st : St} (hS : SnOk S) (hc : ClsRep 1 S st) : ∀ (m s : Nat), s ≤ sN S → sN S - s < m → lp_X5_usedSet_4 st m (nI (usedK S s)) (nI s) = some (nI (usedS S)) := by
  intro m
  induction m with
  | zero => intro s h1 h2; omega
  | succ m ih =>
    intro s h1 h2
    have hn10 := hS.1
    change lpB_X5_usedSet_4 st (lp_X5_usedSet_4 st m) _ _ = _
    unfold lpB_X5_usedSet_4
    rw [hc.1]
    by_cases hs : s = sN S
    · rw [hs, if_pos (nI_le (Nat.le_refl _) (by omega))]
      unfold usedS
      rw [usedK_eq]
    · have hsn : s < sN S := by omega
      rw [if_neg (nI_ge hsn (by omega))]
      obtain ⟨k1, k2, k3, k4⟩ := hc.2.1 s hsn
      simp only [Nat.reduceAdd] at k1 k2 k3 k4
      obtain ⟨a, b, c, d, -⟩ := hS.2.1 s hsn
      rw [ck_in (by omega) (by decide), ck_in (by omega) (by decide), ck_in (by omega) (by decide), lt_eq, lt_eq, nI_clamp (by omega), k2, k3, k4, shl1 _ (by omega), shl1 _ (by omega), shl1 _ (by omega), nI_or, nI_or, nI_or, nI_1]
      have e : usedK S s ||| (2 ^ sT S s ||| 2 ^ sL S s ||| 2 ^ sR S s) = usedK S (s + 1) := by
        show _ = usedK S s ||| 2 ^ sT S s ||| 2 ^ sL S s ||| 2 ^ sR S s
        rw [Nat.or_assoc, Nat.or_assoc, Nat.or_assoc]
      rw [e]
      exact ih (s + 1) (by omega) (by omega)
theorem usedX {S : Sn} {st : St} {N : Nat} (hN : 31 ≤ N) (hS : SnOk S) (hc : ClsRep 1 S st) : F_X5_usedSet N st = some (nI (usedS S)) := by
  unfold F_X5_usedSet
  rw [lt_eq, lt_eq]
  exact usedX_lp hS hc N 0 (by omega) (by have := hS.1; omega)
def lor (l : List Nat) : Nat := l.foldl (fun u v => u ||| 2 ^ v) 0
theorem lor_bit (x : Nat) : ∀ (l : List Nat) (u : Nat), (l.foldl (fun u v => u ||| 2 ^ v) u).testBit x = (u.testBit x || decide (x ∈ l)) := by
  intro l
  induction l with
  | nil => intro u; simp
  | cons y ys ih =>
    intro u
    rw [List.foldl_cons, ih, Nat.testBit_or, Nat.testBit_two_pow]
    by_cases e : y = x
    · subst e; simp
    · have e2 : ¬ x = y := fun h => e h.symm
      simp [e, e2]
theorem lor_used {S : Sn} (hS : SnOk S) (t : Nat) : lor (sl S t (sN S)) = usedS S := by
  apply Nat.eq_of_testBit_eq
  intro x
  unfold lor
  rw [lor_bit]
  rw [Nat.zero_testBit, Bool.false_or]
  have h1 := sl_mem (t := t) (v := x) hS (sN S) (Nat.le_refl _)
  have h2 := used_iff (S := S) (v := x)
  cases hb : (usedS S).testBit x with
  | true => rw [hb] at h2; exact decide_eq_true (h1.mpr (h2.mp rfl))
  | false =>
    rw [hb] at h2
    refine decide_eq_false (fun h => ?_)
    have := h2.mpr (h1.mp h)
    cases this
theorem ones_lp {l : List Nat} (hl : l.length ≤ 30) (h7 : ∀ v, v ∈ l → v < 7) {st : St} (hg : Ln l (st 79)) : ∀ (m i : Nat), i ≤ l.length → l.length - i < m → lp_X8_usedOnes_10 (nI l.length) st m (nI (lor (l.take i))) (nI i) = some (nI (lor l), st) := by
  intro m
  induction m with
  | zero => intro i h1 h2; omega
  | succ m ih =>
    intro i h1 h2
    change lpB_X8_usedOnes_10 (nI l.length) st (lp_X8_usedOnes_10 (nI l.length) st m) _ _ = _
    unfold lpB_X8_usedOnes_10
    by_cases hi : i = l.length
    · rw [hi, if_pos (nI_le (Nat.le_refl _) (by omega)), List.take_length]
    · have hil : i < l.length := by omega
      have hv := h7 _ (getD_mem hil)
      rw [if_neg (nI_ge hil (by omega)), ck_in (by omega) (by decide), lt_eq, lt_eq, nI_clamp (by omega), hg i hil, shl1 _ (by omega), nI_or, nI_1]
      have e : lor (l.take i) ||| 2 ^ l.getD i 0 = lor (l.take (i + 1)) := by
        unfold lor
        rw [List.take_succ, List.foldl_append, List.getD_eq_getElem?_getD, List.getElem?_eq_getElem hil]
        rfl
      rw [e]
      exact ih (i + 1) (by omega) (by omega)
theorem onesM {S : Sn} {st : St} {N : Nat} (hN : 31 ≤ N) (hS : SnOk S) (hm : ModRep S st) : ∃ g : Nat → Int32, F_X8_usedOnes N st = some (nI (usedS S), upr st 79 g) := by
  obtain ⟨g, b1, b2⟩ := lineM (N := N) (t := 0) hN hS hm (by decide)
  have hlen := sl_len S 0 (sN S)
  have hn10 := hS.1
  refine ⟨g, ?_⟩
  unfold F_X8_usedOnes
  rw [lt_eq, ← nI0, b1, bd_s, lt_eq, lt_eq]
  have := ones_lp (l := sl S 0 (sN S)) (by omega) (fun v hv => sl_lt hS hv) (st := upr st 79 g) (by rw [upr_app, if_pos rfl]; exact b2) N 0 (by omega) (by omega)
  rw [lor_used hS] at this
  exact this
