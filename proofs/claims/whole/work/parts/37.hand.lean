theorem far_sym (F a b : Nat) : far F a b = far F b a := by
  unfold far
  by_cases h : a = b
  · subst h; rfl
  · have h2 : b ≠ a := fun e => h e.symm
    have e : (if a < b then b - a else a - b) = (if b < a then a - b else b - a) := by
      by_cases h3 : a < b
      · rw [if_pos h3, if_neg (by omega)]
      · rw [if_neg h3, if_pos (by omega)]
    rw [e]
    simp [h, h2]
theorem far_self (F a : Nat) : far F a a = false := by unfold far; simp
theorem fz_sym (F x y : Nat) : fz F x y = fz F y x := by
  unfold fz
  rw [far_sym F x y]
  by_cases h1 : x < 7 <;> by_cases h2 : y < 7 <;> simp [h1, h2]
theorem frL_sym (F : Nat) (cl : Nat → Nat) : Sym (frL F cl) := ⟨fun a b _ _ => fz_sym _ _ _, fun a _ => by unfold frL fz; simp [far_self]⟩
theorem frL_C {F : Nat} {cl : Nat → Nat} {a v : Nat} (ha : cl a < 7) (hv : cl v < 7) : frL F cl a v = frC F cl a v := by
  unfold frL fz frC
  simp [ha, hv]
theorem wk_congr {fr fr' : Nat → Nat → Nat} {mem : Nat → Bool} (h : ∀ a v, a < 7 → v < 7 → mem a = true → mem v = true → fr a v = fr' a v) : ∀ (l : List Nat) (a : Nat), (∀ v, v ∈ l → v < 7) → (a = 7 ∨ (a < 7 ∧ mem a = true)) → wk fr mem a l = wk fr' mem a l ∧ ((wk fr' mem a l).2 = 7 ∨ ((wk fr' mem a l).2 < 7 ∧ mem (wk fr' mem a l).2 = true)) := by
  intro l
  induction l with
  | nil => intro a _ ha; exact ⟨rfl, ha⟩
  | cons v vs ih =>
    intro a hl ha
    have hv := hl v List.mem_cons_self
    rw [show wk fr mem a (v :: vs) = if mem v then ((if a = 7 then 1 else fr a v) + (wk fr mem v vs).1, (wk fr mem v vs).2) else wk fr mem a vs from rfl]
    rw [show wk fr' mem a (v :: vs) = if mem v then ((if a = 7 then 1 else fr' a v) + (wk fr' mem v vs).1, (wk fr' mem v vs).2) else wk fr' mem a vs from rfl]
    by_cases hm : mem v = true
    · obtain ⟨i1, i2⟩ := ih v (fun u hu => hl u (List.mem_cons_of_mem _ hu)) (Or.inr ⟨hv, hm⟩)
      rw [if_pos hm, if_pos hm, i1]
      refine ⟨?_, i2⟩
      rcases ha with ha | ⟨ha1, ha2⟩
      · rw [if_pos ha, if_pos ha]
      · rw [if_neg (by omega), if_neg (by omega), h a v ha1 hv ha2 hm]
    · rw [if_neg hm, if_neg hm]
      exact ih a (fun u hu => hl u (List.mem_cons_of_mem _ hu)) ha
theorem pyG_congr {S : Sn} (hS : SnOk S) {fr fr' : Nat → Nat → Nat} {mem may may' tn tn' : Nat → Bool} (h : ∀ a v, a < 7 → v < 7 → mem a = true → mem v = true → fr a v = fr' a v) (hmay : ∀ s, s < sN S → may s = may' s) (htn : ∀ s, s < sN S → tn s = tn' s) : ∀ (k a : Nat), k ≤ sN S → (a = 7 ∨ (a < 7 ∧ mem a = true)) → pyG S fr mem may tn k a = pyG S fr' mem may' tn' k a := by
  intro k
  induction k with
  | zero => intro a _ _; rfl
  | succ k ih =>
    intro a hk ha
    have hs : sN S - (k + 1) < sN S := by omega
    have he : ∀ t, ext fr mem (sq S (sN S - (k + 1)) t) (pyG S fr mem may tn k) a = ext fr' mem (sq S (sN S - (k + 1)) t) (pyG S fr' mem may' tn' k) a := by
      intro t
      obtain ⟨i1, i2⟩ := wk_congr h (sq S (sN S - (k + 1)) t) a (fun v hv => sq_lt hS hs hv) ha
      unfold ext
      rw [i1, ih _ (by omega) i2]
    unfold pyG
    rw [hmay _ hs, htn _ hs, he, he, he]
def clH (S : Sn) (v : Nat) : Nat := if v < 7 then sH S v else 7
theorem handM_lp {st : St} (K : St → Option (Int32 × St)) (h : Nat → Nat) (h76 : ∀ v, v < 7 → st 76 v = nI (h v)) : ∀ (m i : Nat) (g : Nat → Int32), i ≤ 7 → 7 - i < m → (∀ c, c < i → g c = nI (h c)) → ∃ g' : Nat → Int32, lp_X8_hand_14 K m (nI i) (upr st 80 g) = K (upr st 80 g') ∧ ∀ c, c < 7 → g' c = nI (h c) := by
  intro m
  induction m with
  | zero => intro i g h1 h2; omega
  | succ m ih =>
    intro i g h1 h2 h3
    change ∃ g' : Nat → Int32, lpB_X8_hand_14 K (lp_X8_hand_14 K m) (nI i) (upr st 80 g) = _ ∧ _
    unfold lpB_X8_hand_14
    by_cases hi : i = 7
    · subst hi
      rw [if_pos (by decide)]
      exact ⟨g, rfl, h3⟩
    · rw [if_neg (by rw [L7]; exact nI_ge (by omega) (by decide)), ck_in (by omega) (by decide), ck_in (by omega) (by decide), lt_eq, lt_eq, nI_clamp (by omega), nI_1, up_upr, show (upr st 80 g) 76 i = nI (h i) by simp only [upr_app, Nat.reduceEqDiff, reduceIte]; exact h76 i (by omega)]
      exact ih (i + 1) _ (by omega) (by omega) (by
        intro c hc
        rw [upd_app]
        by_cases e : c = i
        · rw [if_pos e, e]
        · rw [if_neg e]; exact h3 c (by omega))
theorem mode_c (x : Int32) : (∃ b : Bool, x = bi b ∧ F_X7_isMode x = some 1 ∧ F_X8_in x 0 1 = some 1) ∨ (F_X7_isMode x = some 0 ∧ F_X8_in x 0 1 = some 0) := by
  rcases ix x 2 (by decide) with ⟨j, hj, rfl⟩ | h
  · rcases (show j = 0 ∨ j = 1 by omega) with rfl | rfl
    · exact Or.inl ⟨false, rfl, by decide, by decide⟩
    · exact Or.inl ⟨true, rfl, by decide, by decide⟩
  · refine Or.inr ⟨?_, in_f (b := 1) h (by decide)⟩
    unfold F_X7_isMode
    simp only [lt_eq]
    by_cases a : x < 0
    · simp [a]
    · have b : (2 : Int32) ≤ x := by
        rcases h with h | h
        · exact absurd h a
        · exact h
      have b2 : ¬ x < 2 := by
        rw [i32_le, show (2 : Int32).toInt = 2 from by decide] at b
        rw [i32_lt, show (2 : Int32).toInt = 2 from by decide]
        omega
      simp [a, b, b2]
def mayB (S : Sn) (mode : Bool) : Nat := if mode then turnK S (sN S) else 0
theorem mayB_lt {S : Sn} (hS : SnOk S) (mode : Bool) : mayB S mode < 1024 := by
  unfold mayB
  cases mode
  · show (0 : Nat) < 1024
    decide
  · exact turn_lt hS
theorem mayB_bit {S : Sn} {mode : Bool} {s : Nat} (hs : s < sN S) : (mayB S mode).testBit s = (mode && canT S s) := by
  unfold mayB
  cases mode
  · simp
  · simp only [if_true, turnK_bit, Bool.true_and]
    simp [hs]
theorem canT_ok {S : Sn} {s : Nat} (h : canT S s = true) : sK S s ≠ 0 ∧ sL S s ≠ sR S s := by
  unfold canT at h
  simp only [Bool.and_eq_true, Bool.or_eq_true, decide_eq_true_eq] at h
  exact ⟨by omega, h.2⟩
/-- one register's least cost in its cells, as the class traces it, is the reference's -/
theorem trace_cost {S : Sn} (hS : SnOk S) {set : Nat} {cl : Nat → Nat} {mode : Bool} (hcl : ∀ v, v < 7 → set.testBit v = true → cl v < 7) : tCost (frL (sF S) cl) (tRun S (fun v => set.testBit v) (fun v => (mayB S mode).testBit v) (fun v => (0 : Nat).testBit v) (sN S)) = py S (frC (sF S) cl) (fun v => set.testBit v) mode (sN S) 7 := by
  rw [cost_val hS (frL_sym _ _) (fun s hs h => canT_ok (by
    rw [mayB_bit hs] at h
    simp only [Bool.and_eq_true] at h
    exact h.2)), py_pyG]
  exact pyG_congr hS (fun a v ha hv ma mv => frL_C (hcl a ha ma) (hcl v hv mv)) (fun s hs => mayB_bit hs) (fun s hs => by simp) (sN S) 7 (Nat.le_refl _) (Or.inl rfl)
theorem Fr5.cls {S : Sn} {b : Nat} {st st' : St} (h : Fr5 st st') (hb : b = 1 ∨ b = 8 ∨ b = 15) (hc : ClsRep b S st) : ClsRep b S st' := by
  rcases hb with rfl | rfl | rfl <;> exact hc.kept (h _ (by decide) (by decide) (by decide) (by decide) (by decide)) (h _ (by decide) (by decide) (by decide) (by decide) (by decide)) (h _ (by decide) (by decide) (by decide) (by decide) (by decide)) (h _ (by decide) (by decide) (by decide) (by decide) (by decide)) (h _ (by decide) (by decide) (by decide) (by decide) (by decide)) (h _ (by decide) (by decide) (by decide) (by decide) (by decide)) (h _ (by decide) (by decide) (by decide) (by decide) (by decide))
theorem Fr5.out {st st' : St} (h : Fr5 st st') {k : Nat} (hk : k ∉ sIds) : st' k = st k := by
  simp only [sIds, List.mem_cons, List.not_mem_nil, or_false, not_or] at hk
  exact h k (by omega) (by omega) (by omega) (by omega) (by omega)
theorem run_len {S : Sn} (hS : SnOk S) {mem may tn : Nat → Bool} : (tRun S mem may tn (sN S)).2.1.length ≤ 20 := by
  have := run_mu (S := S) (mem := mem) (may := may) (tn := tn) (sN S)
  have := hS.1
  unfold tMu at *
  omega
theorem ok_hand {st : St} {N : Nat} (hN : 129 ≤ N) (hI : Inv st) (v1 : Int32) : Ok (F_X7_hand N v1) (F_X8_hand N v1) st := by
  have hI0 := hI
  obtain ⟨S, kp, SI, hI⟩ := hI
  have hS := hI.1
  rcases mode_c v1 with ⟨mode, rfl, h1, h2⟩ | ⟨h1, h2⟩
  · obtain ⟨sa, a1, a2, a3⟩ := traceX (N := N) (set := 127) (may := mayB S mode) (tn := 0) hN hS (by decide) (by have := mayB_lt hS mode; omega) (by decide) hI.2.1
    have hFar : FarR (sF S) sa := by
      have := FarOk.r hI.2.2.2.1.1
      intro x y hx hy
      rw [a3 27 (by decide) (by decide) (by decide) (by decide) (by decide)]
      exact this x y hx hy
    have hcl7 : ∀ v, v < 7 → sa 7 v = nI (clH S v) ∧ clH S v ≤ 7 := by
      intro v hv
      rw [a3 7 (by decide) (by decide) (by decide) (by decide) (by decide)]
      unfold clH
      rw [if_pos hv]
      exact ⟨(hI.2.1.2.2.2 v hv).2, by have := hS.2.2.2.2 v hv; omega⟩
    obtain ⟨g, b1⟩ := coX (N := N) (a := 7) (cl := clH S) (by omega) rfl (by decide) (by decide) hcl7 (by unfold clH; simp) hFar a2 (run_fk hS _ (Nat.le_refl _)) (run_len hS) (run_last hS _ (Nat.le_refl _))
    rw [trace_cost hS (fun v hv _ => by unfold clH; rw [if_pos hv]; exact hS.2.2.2.2 v hv)] at b1
    have hIb : InvS S kp SI (upr sa 31 g) := hI.look (by simp only [upr_app, Nat.reduceEqDiff, reduceIte]; rw [a3 70 (by decide) (by decide) (by decide) (by decide) (by decide)]) (fun k hk => by rw [upr_app, if_neg (by rintro rfl; exact hk (by decide))]; exact a3.out hk)
    obtain ⟨g2, c1, c2⟩ := handM_lp (st := upr sa 31 g) (fun (s25 : St) => bd (F_X8_layPay N (127 : Int32) (bi mode) s25) (fun (r26 : Int32) (s27 : St) => some (r26, s27))) (sH S) (fun v hv => (hIb.2.2.1.2.2.1 v hv).2) N 0 ((upr sa 31 g) 80) (by omega) (by omega) (fun c hc => by omega)
    rw [upr_id, nI0] at c1
    have hIc : InvS S kp SI (upr (upr sa 31 g) 80 g2) := hIb.look (by simp [upr_app]) (fun k hk => by rw [upr_app, if_neg (by rintro rfl; exact hk (by decide))])
    obtain ⟨g3, x3, d1, -⟩ := layPayM (N := N) (mode := mode) (set := 127) (cl := clH S) (by omega) hS (by decide) hIc.2.2.1 (by
      intro v hv _
      rw [upr_app, if_pos rfl, c2 v hv]
      unfold clH
      rw [if_pos hv]
      exact ⟨rfl, hS.2.2.2.2 v hv⟩)
    refine ⟨nI (py S (frC (sF S) (clH S)) (fun v => (127 : Nat).testBit v) mode (sN S) 7), upr sa 31 g, stP (upr (upr sa 31 g) 80 g2) g3 x3, ?_, ?_, S, kp, SI, ?_⟩
    · unfold F_X7_hand
      rw [h1, bs_s, if_neg e10, lt_eq]
      have key : bs (F_X6_trace N (127 : Int32) (nI (mayB S mode)) (0 : Int32) st) (fun (s24 : St) => bd (F_X6_cost N 7 s24) (fun (r25 : Int32) (s26 : St) => some (r25, s26))) = some (nI (py S (frC (sF S) (clH S)) (fun v => (127 : Nat).testBit v) mode (sN S) 7), upr sa 31 g) := by
        rw [L127, L0, a1, bs_s, b1]
        rfl
      cases hmo : mode with
      | false =>
        rw [if_pos (by rfl)]
        rw [hmo] at key
        exact key
      | true =>
        rw [if_neg (by decide), turnX (by omega) hS hI.2.1, bs_s]
        rw [hmo] at key
        exact key
    · unfold F_X8_hand
      rw [h2, bs_s, if_neg e10, lt_eq, c1, L127, d1]
      rfl
    · refine hIc.look ?_ ?_
      · unfold stP; simp [up_app, upr_app]
      · intro k hk
        unfold stP
        simp only [up_row]
        rw [if_neg (by rintro rfl; exact hk (by decide)), upr_app, if_neg (by rintro rfl; exact hk (by decide))]
  · refine Ok.same hI0 (-2) ?_ ?_
    · unfold F_X7_hand
      rw [h1, bs_s, if_pos (by rfl)]
    · unfold F_X8_hand
      rw [h2, bs_s, if_pos (by rfl)]
