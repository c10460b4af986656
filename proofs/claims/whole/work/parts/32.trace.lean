-- one register's walk, statements that may be turned left open
abbrev TS : Type := (Nat → Nat) × List (Option Nat × Nat × Option Nat) × Nat × Bool
def tPair (u v : Nat) (b : Nat → Nat) : Nat → Nat := fun i => (if i = v * 7 + u then 1 else 0) + ((if i = u * 7 + v then 1 else 0) + b i)
def tPass (mem : Nat → Bool) (v : Nat) (T : TS) : TS := if mem v then (if T.2.2.2 then (T.1, T.2.1 ++ [(none, v, none)], v, false) else (if T.2.2.1 = 7 ∨ T.2.2.1 = v then T.1 else tPair T.2.2.1 v T.1, T.2.1, v, false)) else T
def tFork (l r : Nat) (T : TS) : TS := (tPair l r T.1, T.2.1 ++ [(if T.2.2.2 then none else some T.2.2.1, l, some r)], T.2.2.1, true)
def tStm (S : Sn) (mem may tn : Nat → Bool) (s : Nat) (T : TS) : TS := if may s && (mem (sL S s) && mem (sR S s)) then tPass mem (sT S s) (tFork (sL S s) (sR S s) T) else if tn s then tPass mem (sT S s) (tPass mem (sL S s) (tPass mem (sR S s) T)) else tPass mem (sT S s) (tPass mem (sR S s) (tPass mem (sL S s) T))
def tRun (S : Sn) (mem may tn : Nat → Bool) : Nat → TS
  | 0 => (fun _ => 0, [], 7, false)
  | s + 1 => tStm S mem may tn s (tRun S mem may tn s)
def oI (o : Option Nat) : Int32 := match o with
  | none => -1
  | some n => nI n
def fkD : Option Nat × Nat × Option Nat := (none, 0, none)
def TRep (set : Nat) (T : TS) (st : St) : Prop := st 25 7 = nI set ∧ (∀ i, i < 49 → st 26 i = nI (T.1 i)) ∧ st 25 6 = nI T.2.1.length ∧ (∀ f, f < T.2.1.length → st 28 f = oI (T.2.1.getD f fkD).1 ∧ st 29 f = nI (T.2.1.getD f fkD).2.1 ∧ st 30 f = oI (T.2.1.getD f fkD).2.2) ∧ st 25 8 = nI T.2.2.1 ∧ st 25 9 = bi T.2.2.2
def tMu (T : TS) : Nat := T.2.1.length + T.2.2.2.toNat
def Fr5 (st st' : St) : Prop := ∀ k, k ≠ 25 → k ≠ 26 → k ≠ 28 → k ≠ 29 → k ≠ 30 → st' k = st k
theorem Fr5.trans {a b c : St} (h1 : Fr5 a b) (h2 : Fr5 b c) : Fr5 a c := fun k x1 x2 x3 x4 x5 => by rw [h2 k x1 x2 x3 x4 x5, h1 k x1 x2 x3 x4 x5]
theorem hasX {st : St} {set v : Nat} (h : st 25 7 = nI set) (hs : set < 2 ^ 31) (hv : v < 32) : F_X6_has (nI v) st = some (bi (set.testBit v)) := by
  unfold F_X6_has
  rw [h, bit_s hs hv]
  cases set.testBit v <;> rfl
theorem pairX {st : St} {u v : Nat} {b : Nat → Nat} (hu : u < 7) (hv : v < 7) (h : ∀ i, i < 49 → st 26 i = nI (b i)) : ∃ g : Nat → Int32, F_X6_pair (nI u) (nI v) st = some (upr st 26 g) ∧ ∀ i, i < 49 → g i = nI (tPair u v b i) := by
  have e1 : nI u * 7 + nI v = nI (u * 7 + v) := by rw [L7, pk_mul, nI_add]
  have e2 : nI v * 7 + nI u = nI (v * 7 + u) := by rw [L7, pk_mul, nI_add]
  refine ⟨upd (upd (st 26) (u * 7 + v) (st 26 (u * 7 + v) + 1)) (v * 7 + u) (upd (st 26) (u * 7 + v) (st 26 (u * 7 + v) + 1) (v * 7 + u) + 1), ?_, ?_⟩
  · unfold F_X6_pair
    simp only [e1, e2, ck_in (show u * 7 + v < 49 by omega) (show (49 : Nat) < 2 ^ 31 by decide), ck_in (show v * 7 + u < 49 by omega) (show (49 : Nat) < 2 ^ 31 by decide), lt_eq, nI_clamp (show u * 7 + v < 2 ^ 31 by omega), nI_clamp (show v * 7 + u < 2 ^ 31 by omega), up_eq, upr_app, reduceIte, upr_upr]
  · intro i hi
    unfold tPair
    simp only [upd_app]
    rw [h _ (show u * 7 + v < 49 by omega), h _ (show v * 7 + u < 49 by omega), h i hi, nI_1]
    by_cases a : i = v * 7 + u
    · subst a
      rw [if_pos rfl, if_pos rfl]
      by_cases c : v * 7 + u = u * 7 + v
      · rw [if_pos c, if_pos c, nI_1]
        congr 1
        rw [c]
        omega
      · rw [if_neg c, if_neg c, nI_1]
        congr 1
        omega
    · rw [if_neg a, if_neg a]
      by_cases c : i = u * 7 + v
      · subst c
        rw [if_pos rfl, if_pos rfl]
        congr 1
        omega
      · rw [if_neg c, if_neg c]
        congr 1
        omega
theorem oI_nI (n : Nat) : oI (some n) = nI n := rfl
theorem addFX {st : St} {T : TS} {set : Nat} {a c : Option Nat} {b : Nat} (h : TRep set T st) (hl : T.2.1.length < 20) : ∃ st' : St, F_X6_addFork (oI a) (nI b) (oI c) st = some st' ∧ TRep set (T.1, T.2.1 ++ [(a, b, c)], T.2.2.1, T.2.2.2) st' ∧ Fr5 st st' := by
  obtain ⟨h1, h2, h3, h4, h5, h6⟩ := h
  refine ⟨up (up (up (up st 28 T.2.1.length (oI a)) 29 T.2.1.length (nI b)) 30 T.2.1.length (oI c)) 25 6 (nI (T.2.1.length + 1)), ?_, ⟨?_, ?_, ?_, ?_, ?_, ?_⟩, ?_⟩
  · unfold F_X6_addFork
    simp only [h3, ck_in hl (show (20 : Nat) < 2 ^ 31 by decide), lt_eq, nI_clamp (show T.2.1.length < 2 ^ 31 by omega), up_app, Nat.reduceEqDiff, reduceIte, nI_1]
  · simp only [up_app, Nat.reduceEqDiff, reduceIte]; exact h1
  · intro i hi; simp only [up_app, Nat.reduceEqDiff, reduceIte]; exact h2 i hi
  · simp [up_app]
  · intro f hf
    rw [List.length_append, List.length_singleton] at hf
    simp only [up_app, Nat.reduceEqDiff, reduceIte]
    by_cases e : f = T.2.1.length
    · subst e
      simp [List.getD_eq_getElem?_getD]
    · simp only [if_neg e]
      have : (T.2.1 ++ [(a, b, c)]).getD f fkD = T.2.1.getD f fkD := by
        rw [List.getD_eq_getElem?_getD, List.getD_eq_getElem?_getD, List.getElem?_append_left (by omega)]
      rw [this]
      exact h4 f (by omega)
  · simp only [up_app, Nat.reduceEqDiff, reduceIte]; exact h5
  · simp only [up_app, Nat.reduceEqDiff, reduceIte]; exact h6
  · intro k x1 x2 x3 x4 x5
    simp only [up_row, if_neg x1, if_neg x3, if_neg x4, if_neg x5]
theorem passX {st : St} {T : TS} {set v : Nat} (hs : set < 128) (hv : v < 7) (h : TRep set T st) (hla : T.2.2.1 ≤ 7) (hmu : tMu T ≤ 20) : ∃ st' : St, F_X6_pass (nI v) st = some st' ∧ TRep set (tPass (fun v => set.testBit v) v T) st' ∧ Fr5 st st' := by
  have hhas := hasX (v := v) h.1 (by omega) (by omega)
  unfold tPass
  by_cases hb : set.testBit v = true
  · rw [hb] at hhas
    simp only [hb, if_true]
    cases ho : T.2.2.2 with
    | true =>
      unfold tMu at hmu
      rw [ho] at hmu
      obtain ⟨sa, a1, a2, a3⟩ := addFX (a := none) (b := v) (c := none) h (by simp at hmu; omega)
      refine ⟨up (up sa 25 9 0) 25 8 (nI v), ?_, ?_, ?_⟩
      · unfold F_X6_pass
        rw [hhas, bs_s, if_neg (by decide), h.2.2.2.2.2, ho, if_neg (by decide)]
        rw [show F_X6_addFork (-1) (nI v) (-1) st = some sa from a1]
        rfl
      · obtain ⟨q1, q2, q3, q4, q5, q6⟩ := a2
        refine ⟨?_, ?_, ?_, ?_, ?_, ?_⟩
        · simp only [up_app, Nat.reduceEqDiff, reduceIte]; exact q1
        · intro i hi; simp only [up_app, Nat.reduceEqDiff, reduceIte]; exact q2 i hi
        · simp only [up_app, Nat.reduceEqDiff, reduceIte]; exact q3
        · intro f hf; simp only [up_app, Nat.reduceEqDiff, reduceIte]; exact q4 f hf
        · simp [up_app]
        · simp [up_app]; rfl
      · intro k x1 x2 x3 x4 x5
        simp only [up_row, if_neg x1]
        exact a3 k x1 x2 x3 x4 x5
    | false =>
      obtain ⟨q1, q2, q3, q4, q5, q6⟩ := h
      rw [ho] at q6
      by_cases h7 : T.2.2.1 = 7
      · refine ⟨up st 25 8 (nI v), ?_, ?_, ?_⟩
        · unfold F_X6_pass
          rw [hhas, bs_s, if_neg (by decide), q6, if_pos (by rfl), q5, h7, if_pos (by rfl)]
          rfl
        · simp only [h7, true_or, if_true]
          refine ⟨?_, ?_, ?_, ?_, ?_, ?_⟩
          · simp only [up_app, Nat.reduceEqDiff, reduceIte]; exact q1
          · intro i hi; simp only [up_app, Nat.reduceEqDiff, reduceIte]; exact q2 i hi
          · simp only [up_app, Nat.reduceEqDiff, reduceIte]; exact q3
          · intro f hf; simp only [up_app, Nat.reduceEqDiff, reduceIte]; exact q4 f hf
          · simp [up_app]
          · simp only [up_app, Nat.reduceEqDiff, reduceIte]; exact q6
        · intro k x1 x2 x3 x4 x5
          simp only [up_row, if_neg x1]
      · have z7 : ¬ nI T.2.2.1 = 7 := by rw [L7, nI_eq (by omega) (by decide)]; exact h7
        by_cases hlv : T.2.2.1 = v
        · refine ⟨up st 25 8 (nI v), ?_, ?_, ?_⟩
          · unfold F_X6_pass
            rw [hhas, bs_s, if_neg (by decide), q6, if_pos (by rfl), q5, if_neg z7, hlv, if_pos (by rfl)]
            rfl
          · simp only [hlv, or_true, if_true]
            refine ⟨?_, ?_, ?_, ?_, ?_, ?_⟩
            · simp only [up_app, Nat.reduceEqDiff, reduceIte]; exact q1
            · intro i hi; simp only [up_app, Nat.reduceEqDiff, reduceIte]; exact q2 i hi
            · simp only [up_app, Nat.reduceEqDiff, reduceIte]; exact q3
            · intro f hf; simp only [up_app, Nat.reduceEqDiff, reduceIte]; exact q4 f hf
            · simp [up_app]
            · simp only [up_app, Nat.reduceEqDiff, reduceIte]; exact q6
          · intro k x1 x2 x3 x4 x5
            simp only [up_row, if_neg x1]
        · have zv : ¬ nI T.2.2.1 = nI v := by rw [nI_eq (by omega) (by omega)]; exact hlv
          obtain ⟨g, g1, g2⟩ := pairX (u := T.2.2.1) (v := v) (by omega) hv q2
          refine ⟨up (upr st 26 g) 25 8 (nI v), ?_, ?_, ?_⟩
          · unfold F_X6_pass
            rw [hhas, bs_s, if_neg (by decide), q6, if_pos (by rfl), q5, if_neg z7, if_neg zv, g1]
            rfl
          · have hor : ¬ (T.2.2.1 = 7 ∨ T.2.2.1 = v) := by rintro (a | a) <;> contradiction
            simp only [if_neg hor, Bool.false_eq_true, if_false]
            refine ⟨?_, ?_, ?_, ?_, ?_, ?_⟩
            · simp only [up_app, upr_app, Nat.reduceEqDiff, reduceIte]; exact q1
            · intro i hi; simp only [up_app, upr_app, Nat.reduceEqDiff, reduceIte]; exact g2 i hi
            · simp only [up_app, upr_app, Nat.reduceEqDiff, reduceIte]; exact q3
            · intro f hf; simp only [up_app, upr_app, Nat.reduceEqDiff, reduceIte]; exact q4 f hf
            · simp [up_app]
            · simp only [up_app, upr_app, Nat.reduceEqDiff, reduceIte]; exact q6
          · intro k x1 x2 x3 x4 x5
            simp only [up_row, upr_app, if_neg x1, if_neg x2]
  · have hb : set.testBit v = false := by cases h : set.testBit v; rfl; exact absurd h hb
    rw [hb] at hhas
    simp only [hb]
    refine ⟨st, ?_, h, fun _ _ _ _ _ _ => rfl⟩
    unfold F_X6_pass
    rw [hhas, bs_s, if_pos (by rfl)]
theorem forkX {st : St} {T : TS} {set l r : Nat} (hl : l < 7) (hr : r < 7) (h : TRep set T st) (hmu : tMu T ≤ 18) : ∃ st' : St, F_X6_fork (nI l) (nI r) st = some st' ∧ TRep set (tFork l r T) st' ∧ Fr5 st st' := by
  unfold tMu at hmu
  obtain ⟨sa, a1, a2, a3⟩ := addFX (a := if T.2.2.2 then none else some T.2.2.1) (b := l) (c := some r) h (by omega)
  obtain ⟨q1, q2, q3, q4, q5, q6⟩ := a2
  obtain ⟨g, g1, g2⟩ := pairX (u := l) (v := r) hl hr q2
  refine ⟨up (upr sa 26 g) 25 9 1, ?_, ⟨?_, ?_, ?_, ?_, ?_, ?_⟩, ?_⟩
  · unfold F_X6_fork
    rw [lt_eq, h.2.2.2.2.2, h.2.2.2.2.1]
    cases ho : T.2.2.2 with
    | true =>
      rw [ho] at a1
      rw [if_neg (by decide)]
      dsimp only
      rw [show F_X6_addFork (-1) (nI l) (nI r) st = some sa from a1, bs_s, g1]
      rfl
    | false =>
      rw [ho] at a1
      rw [if_pos (by rfl)]
      dsimp only
      rw [show F_X6_addFork (nI T.2.2.1) (nI l) (nI r) st = some sa from a1, bs_s, g1]
      rfl
  · simp only [up_app, upr_app, Nat.reduceEqDiff, reduceIte]; exact q1
  · intro i hi; simp only [up_app, upr_app, Nat.reduceEqDiff, reduceIte]; exact g2 i hi
  · simp only [up_app, upr_app, Nat.reduceEqDiff, reduceIte]; exact q3
  · intro f hf; simp only [up_app, upr_app, Nat.reduceEqDiff, reduceIte]; exact q4 f hf
  · simp only [up_app, upr_app, Nat.reduceEqDiff, reduceIte]; exact q5
  · simp [up_app]; rfl
  · intro k x1 x2 x3 x4 x5
    simp only [up_row, upr_app, if_neg x1, if_neg x2]
    exact a3 k x1 x2 x3 x4 x5
theorem pass_mu {mem : Nat → Bool} {v : Nat} {T : TS} : tMu (tPass mem v T) ≤ tMu T := by
  unfold tPass tMu
  split
  · cases T.2.2.2 with
    | true => simp
    | false => simp
  · exact Nat.le_refl _
theorem pass_last {mem : Nat → Bool} {v : Nat} {T : TS} (hv : v < 7) (h : T.2.2.1 ≤ 7) : (tPass mem v T).2.2.1 ≤ 7 := by
  unfold tPass
  split
  · cases T.2.2.2 <;> simp <;> omega
  · exact h
theorem fork_mu {l r : Nat} {T : TS} : tMu (tFork l r T) ≤ tMu T + 2 := by
  unfold tFork tMu
  simp
theorem stm_mu {S : Sn} {mem may tn : Nat → Bool} {s : Nat} {T : TS} : tMu (tStm S mem may tn s T) ≤ tMu T + 2 := by
  unfold tStm
  split
  · exact Nat.le_trans pass_mu fork_mu
  · split
    · exact Nat.le_trans pass_mu (Nat.le_trans pass_mu (Nat.le_trans pass_mu (by omega)))
    · exact Nat.le_trans pass_mu (Nat.le_trans pass_mu (Nat.le_trans pass_mu (by omega)))
theorem run_mu {S : Sn} {mem may tn : Nat → Bool} : ∀ s, tMu (tRun S mem may tn s) ≤ 2 * s := by
  intro s
  induction s with
  | zero => simp [tRun, tMu]
  | succ s ih =>
    have := stm_mu (S := S) (mem := mem) (may := may) (tn := tn) (s := s) (T := tRun S mem may tn s)
    show tMu (tStm S mem may tn s (tRun S mem may tn s)) ≤ _
    omega
theorem run_last {S : Sn} (hS : SnOk S) {mem may tn : Nat → Bool} : ∀ s, s ≤ sN S → (tRun S mem may tn s).2.2.1 ≤ 7 := by
  intro s
  induction s with
  | zero => intro _; simp [tRun]
  | succ s ih =>
    intro hs
    obtain ⟨a, b, c, d, -⟩ := hS.2.1 s (by omega)
    have h := ih (by omega)
    show (tStm S mem may tn s (tRun S mem may tn s)).2.2.1 ≤ 7
    unfold tStm
    split
    · exact pass_last b h
    · split
      · exact pass_last b (pass_last c (pass_last d h))
      · exact pass_last b (pass_last d (pass_last c h))
theorem trace_lp {S : Sn} (hS : SnOk S) {set may tn : Nat} (hs : set < 128) (hm : may < 2 ^ 31) (ht : tn < 2 ^ 31) : ∀ (m s : Nat) (st : St), s ≤ sN S → sN S - s < m → ClsRep 1 S st → TRep set (tRun S (fun v => set.testBit v) (fun v => may.testBit v) (fun v => tn.testBit v) s) st → ∃ st' : St, lp_X6_trace_32 (nI may) (nI tn) m (nI s) st = some st' ∧ TRep set (tRun S (fun v => set.testBit v) (fun v => may.testBit v) (fun v => tn.testBit v) (sN S)) st' ∧ Fr5 st st' := by
  intro m
  induction m with
  | zero => intro s st h1 h2; omega
  | succ m ih =>
    intro s st h1 h2 hc hT
    have hn10 := hS.1
    change ∃ st' : St, lpB_X6_trace_32 (nI may) (nI tn) (lp_X6_trace_32 (nI may) (nI tn) m) (nI s) st = some st' ∧ _
    unfold lpB_X6_trace_32
    rw [hc.1]
    by_cases hsn : s = sN S
    · rw [hsn, if_pos (nI_le (Nat.le_refl _) (by omega))]
      exact ⟨st, rfl, by rw [← hsn]; exact hT, fun _ _ _ _ _ _ => rfl⟩
    · have hs1 : s < sN S := by omega
      rw [if_neg (nI_ge hs1 (by omega))]
      obtain ⟨k1, k2, k3, k4⟩ := hc.2.1 s hs1
      simp only [Nat.reduceAdd] at k1 k2 k3 k4
      obtain ⟨b1, b2, b3, b4, -⟩ := hS.2.1 s hs1
      have hck : ∀ (x : Option St), ck (inb (nI s) 10) x = x := fun x => ck_in (by omega) (by decide) x
      have es : (nI s).toNatClampNeg = s := nI_clamp (by omega)
      have hbm : (nI may >>> (nI s &&& 31)) &&& (1 : Int32) = bi (may.testBit s) := bit_s hm (by omega)
      have hbt : (nI tn >>> (nI s &&& 31)) &&& (1 : Int32) = bi (tn.testBit s) := bit_s ht (by omega)
      have hL := hasX (v := sL S s) hT.1 (by omega) (by omega)
      have hR := hasX (v := sR S s) hT.1 (by omega) (by omega)
      have hmu := run_mu (S := S) (mem := fun v => set.testBit v) (may := fun v => may.testBit v) (tn := fun v => tn.testBit v) s
      have hla := run_last hS (mem := fun v => set.testBit v) (may := fun v => may.testBit v) (tn := fun v => tn.testBit v) s (by omega)
      have hnext : tRun S (fun v => set.testBit v) (fun v => may.testBit v) (fun v => tn.testBit v) (s + 1) = tStm S (fun v => set.testBit v) (fun v => may.testBit v) (fun v => tn.testBit v) s (tRun S (fun v => set.testBit v) (fun v => may.testBit v) (fun v => tn.testBit v) s) := rfl
      generalize tRun S (fun v => set.testBit v) (fun v => may.testBit v) (fun v => tn.testBit v) s = T at hT hmu hla hnext
      -- the target, and the next statement
      have fin : ∀ (U : TS) (su : St), TRep set U su → Fr5 st su → U.2.2.1 ≤ 7 → tMu U ≤ 20 → tPass (fun v => set.testBit v) (sT S s) U = tRun S (fun v => set.testBit v) (fun v => may.testBit v) (fun v => tn.testBit v) (s + 1) → ∃ sv : St, F_X6_pass (nI (sT S s)) su = some sv ∧ ∃ st' : St, lp_X6_trace_32 (nI may) (nI tn) m (nI (s + 1)) sv = some st' ∧ TRep set (tRun S (fun v => set.testBit v) (fun v => may.testBit v) (fun v => tn.testBit v) (sN S)) st' ∧ Fr5 st st' := by
        intro U su u1 u2 u3 u4 u5
        obtain ⟨sv, v1, v2, v3⟩ := passX hs b2 u1 u3 u4
        have f := u2.trans v3
        obtain ⟨st', w1, w2, w3⟩ := ih (s + 1) sv (by omega) (by omega) (hc.kept (f _ (by decide) (by decide) (by decide) (by decide) (by decide)) (f _ (by decide) (by decide) (by decide) (by decide) (by decide)) (f _ (by decide) (by decide) (by decide) (by decide) (by decide)) (f _ (by decide) (by decide) (by decide) (by decide) (by decide)) (f _ (by decide) (by decide) (by decide) (by decide) (by decide)) (f _ (by decide) (by decide) (by decide) (by decide) (by decide)) (f _ (by decide) (by decide) (by decide) (by decide) (by decide))) (by rw [← u5]; exact v2)
        exact ⟨sv, v1, st', w1, w2, f.trans w3⟩
      -- two passes and the target
      have pas : ∀ (a b : Nat), a < 7 → b < 7 → tPass (fun v => set.testBit v) (sT S s) (tPass (fun v => set.testBit v) b (tPass (fun v => set.testBit v) a T)) = tRun S (fun v => set.testBit v) (fun v => may.testBit v) (fun v => tn.testBit v) (s + 1) → ∃ sa sb sv : St, F_X6_pass (nI a) st = some sa ∧ F_X6_pass (nI b) sa = some sb ∧ sb 3 = st 3 ∧ F_X6_pass (nI (sT S s)) sb = some sv ∧ ∃ st' : St, lp_X6_trace_32 (nI may) (nI tn) m (nI (s + 1)) sv = some st' ∧ TRep set (tRun S (fun v => set.testBit v) (fun v => may.testBit v) (fun v => tn.testBit v) (sN S)) st' ∧ Fr5 st st' := by
        intro a b ha hb he
        obtain ⟨sa, x1, x2, x3⟩ := passX hs ha hT hla (by omega)
        have m1 := pass_mu (mem := fun v => set.testBit v) (v := a) (T := T)
        obtain ⟨sb, y1, y2, y3⟩ := passX hs hb x2 (pass_last ha hla) (by omega)
        have m2 := pass_mu (mem := fun v => set.testBit v) (v := b) (T := tPass (fun v => set.testBit v) a T)
        have f := x3.trans y3
        obtain ⟨sv, z1, z2⟩ := fin _ sb y2 f (pass_last hb (pass_last ha hla)) (by omega) he
        exact ⟨sa, sb, sv, x1, y1, f 3 (by decide) (by decide) (by decide) (by decide) (by decide), z1, z2⟩
      -- without a fork
      have nofork : (may.testBit s && (set.testBit (sL S s) && set.testBit (sR S s))) = false → ∃ st' : St, (if ((nI tn >>> (nI s &&& 31)) &&& (1 : Int32)) = 0 then bs (F_X6_pass (nI (sL S s)) st) (fun (s34 : St) => bs (F_X6_pass (nI (sR S s)) s34) (fun (s35 : St) => bs (F_X6_pass (s35 3 s) s35) (fun (s31 : St) => lp_X6_trace_32 (nI may) (nI tn) m (nI (s + 1)) s31))) else bs (F_X6_pass (nI (sR S s)) st) (fun (s36 : St) => bs (F_X6_pass (nI (sL S s)) s36) (fun (s37 : St) => bs (F_X6_pass (s37 3 s) s37) (fun (s31 : St) => lp_X6_trace_32 (nI may) (nI tn) m (nI (s + 1)) s31)))) = some st' ∧ TRep set (tRun S (fun v => set.testBit v) (fun v => may.testBit v) (fun v => tn.testBit v) (sN S)) st' ∧ Fr5 st st' := by
        intro hf
        rw [hbt]
        cases hb : tn.testBit s with
        | false =>
          obtain ⟨sa, sb, sv, x1, x2, x3, x4, st', y1, y2, y3⟩ := pas (sL S s) (sR S s) b3 b4 (by rw [hnext]; unfold tStm; rw [if_neg (show ¬ (may.testBit s && (set.testBit (sL S s) && set.testBit (sR S s))) = true by rw [hf]; decide), if_neg (show ¬ tn.testBit s = true by rw [hb]; decide)])
          refine ⟨st', ?_, y2, y3⟩
          rw [if_pos (by rfl), x1, bs_s, x2, bs_s, x3, k2, x4, bs_s, y1]
        | true =>
          obtain ⟨sa, sb, sv, x1, x2, x3, x4, st', y1, y2, y3⟩ := pas (sR S s) (sL S s) b4 b3 (by rw [hnext]; unfold tStm; rw [if_neg (show ¬ (may.testBit s && (set.testBit (sL S s) && set.testBit (sR S s))) = true by rw [hf]; decide), if_pos (show tn.testBit s = true from hb)])
          refine ⟨st', ?_, y2, y3⟩
          rw [if_neg (by decide), x1, bs_s, x2, bs_s, x3, k2, x4, bs_s, y1]
      simp only [hck, es, k3, k4, lt_eq, nI_1, hL, hR, bs_s, hbm]
      cases hmb : may.testBit s with
      | false =>
        simp only [if_pos (show bi false = 0 from rfl)]
        exact nofork (by rw [hmb]; rfl)
      | true =>
        simp only [if_neg (show ¬ bi true = 0 by decide)]
        cases hlb : set.testBit (sL S s) with
        | false =>
          simp only [if_pos (show bi false = 0 from rfl)]
          exact nofork (by rw [hmb, hlb]; rfl)
        | true =>
          simp only [if_neg (show ¬ bi true = 0 by decide)]
          cases hrb : set.testBit (sR S s) with
          | false =>
            simp only [if_pos (show bi false = 0 from rfl)]
            exact nofork (by rw [hmb, hlb, hrb]; rfl)
          | true =>
            simp only [if_neg (show ¬ bi true = 0 by decide)]
            obtain ⟨sa, x1, x2, x3⟩ := forkX b3 b4 hT (by omega)
            have m1 := fork_mu (l := sL S s) (r := sR S s) (T := T)
            obtain ⟨sv, z1, st', w1, w2, w3⟩ := fin _ sa x2 x3 hla (by omega) (by rw [hnext]; unfold tStm; rw [if_pos (show (may.testBit s && (set.testBit (sL S s) && set.testBit (sR S s))) = true by rw [hmb, hlb, hrb]; rfl)])
            refine ⟨st', ?_, w2, w3⟩
            rw [x1, bs_s, x3 3 (by decide) (by decide) (by decide) (by decide) (by decide), k2, z1, bs_s, w1]
theorem traceX {S : Sn} {st : St} {set may tn N : Nat} (hN : 129 ≤ N) (hS : SnOk S) (hs : set < 128) (hm : may < 2 ^ 31) (ht : tn < 2 ^ 31) (hc : ClsRep 1 S st) : ∃ st' : St, F_X6_trace N (nI set) (nI may) (nI tn) st = some st' ∧ TRep set (tRun S (fun v => set.testBit v) (fun v => may.testBit v) (fun v => tn.testBit v) (sN S)) st' ∧ Fr5 st st' := by
  obtain ⟨g, g1, g2, -⟩ := fillX (a := 26) (n := 49) (N := N) rfl rfl (by decide) (by omega) 0 st
  obtain ⟨st', w1, w2, w3⟩ := trace_lp hS hs hm ht N 0 (up (up (up (up (upr st 26 g) 25 6 0) 25 7 (nI set)) 25 8 7) 25 9 0) (by omega) (by have := hS.1; omega) (hc.kept (by simp [up_row, upr_app]) (by simp [up_row, upr_app]) (by simp [up_row, upr_app]) (by simp [up_row, upr_app]) (by simp [up_row, upr_app]) (by simp [up_row, upr_app]) (by simp [up_row, upr_app])) (by
    refine ⟨by simp [up_app], ?_, by simp [up_app, tRun]; rfl, ?_, by simp [up_app, tRun]; rfl, by simp [up_app, tRun]; rfl⟩
    · intro i hi
      simp only [up_app, upr_app, Nat.reduceEqDiff, reduceIte]
      rw [g2 i hi]
      rfl
    · intro f hf
      simp [tRun] at hf)
  refine ⟨st', ?_, w2, ?_⟩
  · unfold F_X6_trace
    rw [g1, bs_s, lt_eq, lt_eq, lt_eq, lt_eq, lt_eq]
    exact w1
  · intro k x1 x2 x3 x4 x5
    rw [w3 k x1 x2 x3 x4 x5]
    simp only [up_row, upr_app, if_neg x1, if_neg x2]
