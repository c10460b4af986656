-- the reference's costs
theorem isFarM {S : Sn} {st : St} {a b : Nat} (hm : ∀ d, d < 7 → st 77 d = bi ((sF S).testBit d)) (ha : a < 7) (hb : b < 7) : F_X8_isFar (nI a) (nI b) st = some (bi (far (sF S) a b)) := by
  unfold F_X8_isFar far
  simp only [lt_eq]
  by_cases h : b ≤ a
  · rw [if_pos (nI_le h (by omega)), pk_sub h]
    by_cases e : a = b
    · subst e
      rw [if_pos (by rw [Nat.sub_self]; decide)]
      simp [bi]
    · rw [if_neg (by rw [L0]; exact nI_ge (by omega) (by omega)), ck_in (by omega) (by decide), nI_clamp (by omega), hm _ (by omega), if_neg (show ¬ a < b by omega)]
      cases (sF S).testBit (a - b) <;> simp [bi, e]
  · rw [if_neg (nI_ge (by omega) (by omega)), pk_sub (by omega)]
    rw [if_neg (by rw [L0]; exact nI_ge (by omega) (by omega)), ck_in (by omega) (by decide), nI_clamp (by omega), hm _ (by omega), if_pos (show a < b by omega)]
    have e : a ≠ b := by omega
    cases (sF S).testBit (b - a) <;> simp [bi, e]
def stF (fr : Nat → Nat → Nat) (mem : Nat → Bool) (q : Nat × Nat) (v : Nat) : Nat × Nat := if mem v then (q.1 + cst fr q.2 v, v) else q
theorem wk_fold {fr : Nat → Nat → Nat} {mem : Nat → Bool} : ∀ (l : List Nat) (q : Nat × Nat), l.foldl (stF fr mem) q = (q.1 + (wk fr mem q.2 l).1, (wk fr mem q.2 l).2) := by
  intro l
  induction l with
  | nil => intro q; rfl
  | cons v vs ih =>
    intro q
    rw [List.foldl_cons, ih]
    rw [show wk fr mem q.2 (v :: vs) = if mem v then ((if q.2 = 7 then 1 else fr q.2 v) + (wk fr mem v vs).1, (wk fr mem v vs).2) else wk fr mem q.2 vs from rfl]
    unfold stF cst
    by_cases hm : mem v = true
    · simp only [hm, if_true]
      congr 1
      omega
    · simp only [hm]
      rfl
def lastOk (set a : Nat) : Prop := a = 7 ∨ (a < 7 ∧ set.testBit a = true)
theorem stF_ok {fr : Nat → Nat → Nat} {set : Nat} {q : Nat × Nat} {v : Nat} (hv : v < 7) (h : lastOk set q.2) : lastOk set (stF fr (fun v => set.testBit v) q v).2 := by
  unfold stF
  by_cases hb : set.testBit v = true
  · simp only [hb, if_true]; exact Or.inr ⟨hv, hb⟩
  · simp only [hb]; exact h
theorem wk_ok {fr : Nat → Nat → Nat} {set : Nat} : ∀ (l : List Nat) (a : Nat), (∀ v, v ∈ l → v < 7) → lastOk set a → lastOk set (wk fr (fun v => set.testBit v) a l).2 := by
  intro l
  induction l with
  | nil => intro a _ h; exact h
  | cons v vs ih =>
    intro a hl h
    rw [show wk fr (fun v => set.testBit v) a (v :: vs) = if set.testBit v then ((if a = 7 then 1 else fr a v) + (wk fr (fun v => set.testBit v) v vs).1, (wk fr (fun v => set.testBit v) v vs).2) else wk fr (fun v => set.testBit v) a vs from rfl]
    by_cases hb : set.testBit v = true
    · rw [if_pos hb]
      exact ih v (fun u hu => hl u (List.mem_cons_of_mem _ hu)) (Or.inr ⟨hl v List.mem_cons_self, hb⟩)
    · rw [if_neg hb]
      exact ih a (fun u hu => hl u (List.mem_cons_of_mem _ hu)) h
def CelM (set : Nat) (cl : Nat → Nat) (st : St) : Prop := ∀ v, v < 7 → set.testBit v = true → st 80 v = nI (cl v) ∧ cl v < 7
theorem stF_t {fr : Nat → Nat → Nat} {set c a v : Nat} (hb : set.testBit v = true) : stF fr (fun v => set.testBit v) (c, a) v = (c + cst fr a v, v) := if_pos hb
theorem stF_f {fr : Nat → Nat → Nat} {set c a v : Nat} (hb : set.testBit v = false) : stF fr (fun v => set.testBit v) (c, a) v = (c, a) := if_neg (show ¬ set.testBit v = true by rw [hb]; decide)
theorem co_step {S : Sn} {st : St} {s p t set a c m v : Nat} {cl : Nat → Nat} {b : Bool} (hset : set < 128) (hm : ModRep S st) (hcl : CelM set cl st) (hp : p < 3) (ha : lastOk set a) (hv : v < 7) (hsn : F_X8_seen (nI s) (nI p) (bi b) (up st 70 12 (nI a)) = some (nI v)) : lp_X8_costOf_12 (nI s) (bi b) (nI set) (m + 1) (nI c) (nI p) (up st 70 12 (nI a)) = lp_X8_costOf_12 (nI s) (bi b) (nI set) m (nI (stF (frC (sF S) cl) (fun v => set.testBit v) (c, a) v).1) (nI (p + 1)) (up st 70 12 (nI (stF (frC (sF S) cl) (fun v => set.testBit v) (c, a) v).2)) := by
  change lpB_X8_costOf_12 (nI s) (bi b) (nI set) (lp_X8_costOf_12 (nI s) (bi b) (nI set) m) _ _ _ = _
  unfold lpB_X8_costOf_12
  have h70 : ∀ x : Int32, (up st 70 12 x) 70 12 = x := fun x => by simp [up_app]
  have h80 : ∀ (x : Int32) (i : Nat), (up st 70 12 x) 80 i = st 80 i := fun x i => by simp [up_app]
  have huu : ∀ x y : Int32, up (up st 70 12 x) 70 12 y = up st 70 12 y := by
    intro x y
    funext k i
    simp only [up_app]
    split
    · split <;> rfl
    · rfl
  rw [if_neg (by rw [L3]; exact nI_ge hp (by decide)), hsn, bs_s, lt_eq, if_neg (nI_pos (by omega)), hasM (by omega) (by omega), bs_s]
  cases hb : set.testBit v with
  | false =>
    rw [if_pos (by rfl), lt_eq, nI_1, stF_f hb]
  | true =>
    rw [if_neg (by decide), lt_eq, h70, stF_t hb]
    obtain ⟨d1, d2⟩ := hcl v hv hb
    rcases ha with rfl | ⟨ha1, ha2⟩
    · rw [if_pos (by rfl)]
      simp only [lt_eq, huu, nI_1]
      rw [show cst (frC (sF S) cl) 7 v = 1 from rfl]
    · obtain ⟨f1, f2⟩ := hcl a ha1 ha2
      have hne : ¬ nI a = 7 := by rw [L7, nI_eq (by omega) (by decide)]; omega
      rw [if_neg hne, ck_in ha1 (by decide), ck_in hv (by decide), nI_clamp (by omega), nI_clamp (by omega), h80, h80, d1, f1, isFarM (S := S) (fun d hd => by simp only [up_app, Nat.reduceEqDiff, reduceIte]; exact hm.2.2.2 d hd) f2 d2, bs_s]
      unfold cst frC
      rw [if_neg (show ¬ a = 7 by omega)]
      cases far (sF S) (cl a) (cl v) with
      | false =>
        rw [if_pos (by rfl)]
        simp only [lt_eq, huu, nI_1]
        rw [L0, nI_add]
        rfl
      | true =>
        rw [if_neg (by decide)]
        simp only [lt_eq, huu, nI_1]
        rfl
theorem co_skip {st : St} {s p set c m : Nat} {b : Bool} (hp : p < 3) (hsn : F_X8_seen (nI s) (nI p) (bi b) st = some (-6)) : lp_X8_costOf_12 (nI s) (bi b) (nI set) (m + 1) (nI c) (nI p) st = lp_X8_costOf_12 (nI s) (bi b) (nI set) m (nI c) (nI (p + 1)) st := by
  change lpB_X8_costOf_12 (nI s) (bi b) (nI set) (lp_X8_costOf_12 (nI s) (bi b) (nI set) m) _ _ _ = _
  unfold lpB_X8_costOf_12
  rw [if_neg (by rw [L3]; exact nI_ge hp (by decide)), hsn, bs_s, lt_eq, if_pos neg6, lt_eq, nI_1]
theorem sq_lt {S : Sn} (hS : SnOk S) {s v : Nat} {t : Bool} (hs : s < sN S) (h : v ∈ sq S s t) : v < 7 := by
  obtain ⟨a, b, c, d, e⟩ := hS.2.1 s hs
  rcases (sq_mem e).mp h with rfl | rfl | rfl
  · exact b
  · exact c
  · exact d
theorem ModRep.aft {S : Sn} {st : St} (h : ModRep S st) (x : Int32) : ModRep S (up st 70 12 x) := h.kept (by simp [up_app]) (by simp [up_row]) (by simp [up_row]) (by simp [up_row]) (by simp [up_row]) (by simp [up_row]) (by simp [up_row]) (by simp [up_row])
theorem coM {S : Sn} {st : St} {s set a N : Nat} {cl : Nat → Nat} {b : Bool} (hN : 4 ≤ N) (hS : SnOk S) (hset : set < 128) (hm : ModRep S st) (hcl : CelM set cl st) (hs : s < sN S) (ha : lastOk set a) : F_X8_costOf N (nI s) (bi b) (nI set) (nI a) st = some (nI (wk (frC (sF S) cl) (fun v => set.testBit v) a (sq S s b)).1, up st 70 12 (nI (wk (frC (sF S) cl) (fun v => set.testBit v) a (sq S s b)).2)) := by
  obtain ⟨M, rfl⟩ : ∃ M, N = M + 4 := ⟨N - 4, by omega⟩
  have hfin : ∀ (c : Nat) (x : St), lp_X8_costOf_12 (nI s) (bi b) (nI set) (M + 1) (nI c) (nI 3) x = some (nI c, x) := by
    intro c x
    change lpB_X8_costOf_12 (nI s) (bi b) (nI set) (lp_X8_costOf_12 (nI s) (bi b) (nI set) M) (nI c) (nI 3) x = _
    unfold lpB_X8_costOf_12
    rw [if_pos (by decide)]
  have hsq := fun v (h : v ∈ sq S s b) => sq_lt hS hs h
  have hfold := wk_fold (fr := frC (sF S) cl) (mem := fun v => set.testBit v) (sq S s b) (0, a)
  simp only [Nat.zero_add] at hfold
  have hq1 := (seenM hS (hm.aft (nI a)) hs b).1
  unfold F_X8_costOf
  rw [lt_eq, lt_eq, lt_eq]
  by_cases hk : sK S s = 0
  · have e : sq S s b = [sL S s, sT S s] := by unfold sq; rw [if_pos hk]
    rw [e] at hsq hfold hq1 ⊢
    simp only [List.foldl_cons, List.foldl_nil] at hfold
    have hLv : sL S s < 7 := hsq _ (by simp)
    have hTv : sT S s < 7 := hsq _ (by simp)
    have r0 := co_step (t := 0) (m := M + 3) (c := 0) (p := 0) hset hm hcl (by decide) ha hLv hq1
    have o1 := stF_ok (fr := frC (sF S) cl) (q := (0, a)) hLv ha
    generalize hA : stF (frC (sF S) cl) (fun v => set.testBit v) (0, a) (sL S s) = A at *
    have q2 := (seenM hS (hm.aft (nI A.2)) hs b).2.1
    rw [if_pos hk] at q2
    have r1 := co_skip (m := M + 2) (c := A.1) (p := 1) (set := set) (by decide) q2
    have q3 := (seenM hS (hm.aft (nI A.2)) hs b).2.2
    have r2 := co_step (t := 0) (m := M + 1) (c := A.1) (p := 2) hset hm hcl (by decide) o1 hTv q3
    rw [show ((A.1, A.2) : Nat × Nat) = A from rfl, hfold] at r2
    exact r0.trans (r1.trans (r2.trans (hfin _ _)))
  · have e : ∃ x y, sq S s b = [x, y, sT S s] := by
      unfold sq
      rw [if_neg hk]
      cases b
      · exact ⟨_, _, rfl⟩
      · exact ⟨_, _, rfl⟩
    obtain ⟨x, y, e⟩ := e
    have q2' := fun z => (seenM hS (hm.aft (nI z)) hs b).2.1
    rw [e] at hsq hfold hq1 ⊢
    simp only [e, if_neg hk] at q2'
    simp only [List.foldl_cons, List.foldl_nil] at hfold
    have hxv : x < 7 := hsq _ (by simp)
    have hyv : y < 7 := hsq _ (by simp)
    have hTv : sT S s < 7 := hsq _ (by simp)
    have r0 := co_step (t := 0) (m := M + 3) (c := 0) (p := 0) hset hm hcl (by decide) ha hxv hq1
    have o1 := stF_ok (fr := frC (sF S) cl) (q := (0, a)) hxv ha
    generalize hA : stF (frC (sF S) cl) (fun v => set.testBit v) (0, a) x = A at *
    have r1 := co_step (t := 0) (m := M + 2) (c := A.1) (p := 1) hset hm hcl (by decide) o1 hyv (q2' A.2)
    have o2 := stF_ok (fr := frC (sF S) cl) (q := A) hyv o1
    rw [show ((A.1, A.2) : Nat × Nat) = A from rfl] at r1
    generalize hB : stF (frC (sF S) cl) (fun v => set.testBit v) A y = B at *
    have q3 := (seenM hS (hm.aft (nI B.2)) hs b).2.2
    have r2 := co_step (t := 0) (m := M + 1) (c := B.1) (p := 2) hset hm hcl (by decide) o2 hTv q3
    rw [show ((B.1, B.2) : Nat × Nat) = B from rfl, hfold] at r2
    exact r0.trans (r1.trans (r2.trans (hfin _ _)))
/-- costs stay small -/
theorem wk_le {fr : Nat → Nat → Nat} {mem : Nat → Bool} (h1 : ∀ a v, fr a v ≤ 1) : ∀ (l : List Nat) (a : Nat), (wk fr mem a l).1 ≤ l.length := by
  intro l
  induction l with
  | nil => intro a; exact Nat.le_refl _
  | cons v vs ih =>
    intro a
    rw [show wk fr mem a (v :: vs) = if mem v then ((if a = 7 then 1 else fr a v) + (wk fr mem v vs).1, (wk fr mem v vs).2) else wk fr mem a vs from rfl]
    have e1 := ih v
    have e2 := ih a
    have e3 := h1 a v
    rw [List.length_cons]
    split
    · simp only
      split <;> omega
    · omega
theorem frC_le (F : Nat) (cl : Nat → Nat) (a v : Nat) : frC F cl a v ≤ 1 := by unfold frC; split <;> omega
theorem py_le {S : Sn} {fr : Nat → Nat → Nat} {mem : Nat → Bool} {mode : Bool} (h1 : ∀ a v, fr a v ≤ 1) : ∀ (k a : Nat), py S fr mem mode k a ≤ 3 * k := by
  intro k
  induction k with
  | zero => intro a; exact Nat.le_refl _
  | succ k ih =>
    intro a
    have hb : ∀ t, (wk fr mem a (sq S (sN S - (k + 1)) t)).1 + py S fr mem mode k (wk fr mem a (sq S (sN S - (k + 1)) t)).2 ≤ 3 * (k + 1) := by
      intro t
      have e1 := wk_le (mem := mem) h1 (sq S (sN S - (k + 1)) t) a
      have e2 := sq_len S (sN S - (k + 1)) t
      have e3 := ih (wk fr mem a (sq S (sN S - (k + 1)) t)).2
      omega
    unfold py
    split
    · exact Nat.le_trans (Nat.min_le_left _ _) (hb false)
    · exact hb false
