-- the greedy way
def gv (r : Nat → Nat) (o : Option Nat) : Nat := match o with
  | none => 0
  | some q => r q
def gst (r : Nat → Nat) : Nat → Option Nat
  | 0 => none
  | k + 1 => if gv r (gst r k) < r k then some k else gst r k
theorem gst_s {r : Nat → Nat} : ∀ k q, gst r k = some q → q < k ∧ 0 < r q := by
  intro k
  induction k with
  | zero => intro q h; cases h
  | succ k ih =>
    intro q h
    by_cases hk : gv r (gst r k) < r k
    · rw [show gst r (k + 1) = some k from if_pos hk] at h
      cases h
      exact ⟨by omega, by omega⟩
    · rw [show gst r (k + 1) = gst r k from if_neg hk] at h
      have := ih q h
      exact ⟨by omega, this.2⟩
theorem gst_n {r : Nat → Nat} : ∀ k, gst r k = none → ∀ i, i < k → r i = 0 := by
  intro k
  induction k with
  | zero => intro h i hi; omega
  | succ k ih =>
    intro h i hi
    by_cases hk : gv r (gst r k) < r k
    · rw [show gst r (k + 1) = some k from if_pos hk] at h
      cases h
    · rw [show gst r (k + 1) = gst r k from if_neg hk] at h
      rw [h] at hk
      by_cases e : i = k
      · rw [e]
        have : gv r none = 0 := rfl
        omega
      · exact ih h i (by omega)
theorem gv_lt {r : Nat → Nat} {B k : Nat} (h0 : 0 < B) (hb : ∀ i, i < 49 → r i < B) (hk : k ≤ 49) : gv r (gst r k) < B := by
  cases h : gst r k with
  | none => exact h0
  | some q => exact hb q (by have := (gst_s k q h).1; omega)
theorem great_lp {st : St} {r : Nat → Nat} (hr : ∀ i, i < 49 → st 67 i = nI (r i)) (hb : ∀ i, i < 49 → r i < 2 ^ 31) : ∀ (m k : Nat), k ≤ 49 → 49 - k < m → lp_X0_greatest_6 st m (oI (gst r k)) (nI (gv r (gst r k))) (nI k) = some (oI (gst r 49)) := by
  intro m
  induction m with
  | zero => intro k h1 h2; omega
  | succ m ih =>
    intro k h1 h2
    change lpB_X0_greatest_6 st (lp_X0_greatest_6 st m) _ _ _ = _
    unfold lpB_X0_greatest_6
    by_cases hk : k = 49
    · subst hk
      rw [if_pos (by decide)]
    · rw [if_neg (by rw [L49]; exact nI_ge (by omega) (by decide))]
      have hg : gv r (gst r k) < 2 ^ 31 := gv_lt (by decide) hb h1
      have hrk := hb k (by omega)
      simp (disch := omega) only [lt_eq, ck_in, nI_clamp, nI_1, hr]
      have := ih (k + 1) (by omega) (by omega)
      by_cases h : gv r (gst r k) < r k
      · rw [show gst r (k + 1) = some k from if_pos h] at this
        rw [if_neg (by rw [nI_leI hrk hg]; omega)]
        exact this
      · rw [show gst r (k + 1) = gst r k from if_neg h] at this
        rw [if_pos (by rw [nI_leI hrk hg]; omega)]
        exact this
theorem greatX {st : St} {r : Nat → Nat} {N : Nat} (hN : 129 ≤ N) (hr : ∀ i, i < 49 → st 67 i = nI (r i)) (hb : ∀ i, i < 49 → r i < 2 ^ 31) : F_X0_greatest N st = some (oI (gst r 49)) := great_lp hr hb N 0 (by omega) (by omega)
def oM (o : Option Nat) : Int32 := match o with
  | none => -6
  | some n => nI n
def rG (w : Nat → Nat) (gn : Nat → Bool) (i : Nat) : Nat := if i / 7 < i % 7 ∧ gn i = false then w i else 0
theorem rG_w {w : Nat → Nat} {gn : Nat → Bool} {i : Nat} (h : 0 < rG w gn i) : rG w gn i = w i ∧ i / 7 < i % 7 ∧ gn i = false := by
  unfold rG at *
  by_cases e : i / 7 < i % 7 ∧ gn i = false
  · rw [if_pos e]; exact ⟨rfl, e⟩
  · rw [if_neg e] at h; omega
theorem ck7 {α : Type} (x : Option α) : ck (decide ((7 : Int32) ≠ 0)) x = x := rfl
theorem div7 {k : Nat} (h : k < 49) : nI k / 7 = nI (k / 7) := pk_div (d := 7) (by omega) (by decide) (by decide)
theorem rem7 {k : Nat} (h : k < 49) : nI k - nI k / 7 * 7 = nI (k % 7) := pk_rem (d := 7) (by omega) (by decide) (by decide)
theorem heavy_lp {st : St} {w : Nat → Nat} {gn : Nat → Bool} (hw : ∀ i, i < 49 → st 88 i = nI (w i)) (hg : ∀ i, i < 49 → st 90 i = bi (gn i)) (hb : ∀ i, w i ≤ 60) : ∀ (m k : Nat), k ≤ 49 → 49 - k < m → lp_X8_heaviest_5 st m (oM (gst (rG w gn) k)) (nI k) = some (oM (gst (rG w gn) 49)) := by
  intro m
  induction m with
  | zero => intro k h1 h2; omega
  | succ m ih =>
    intro k h1 h2
    change lpB_X8_heaviest_5 st (lp_X8_heaviest_5 st m) _ _ = _
    unfold lpB_X8_heaviest_5
    by_cases hk : k = 49
    · subst hk
      rw [if_pos (by decide)]
    · rw [if_neg (by rw [L49]; exact nI_ge (by omega) (by decide))]
      have hk49 : k < 49 := by omega
      simp only [ck7, lt_eq]
      rw [rem7 hk49, div7 hk49]
      simp (disch := omega) only [ck_in, nI_clamp, nI_1, hw, hg]
      have hi := ih (k + 1) (by omega) (by omega)
      have hwk := hb k
      have skip : rG w gn k = 0 → gst (rG w gn) (k + 1) = gst (rG w gn) k := fun h => if_neg (by rw [h]; omega)
      by_cases hp : k % 7 ≤ k / 7
      · rw [if_pos ((nI_leI (by omega) (by omega)).mpr hp), if_pos trivial]
        rw [skip (by unfold rG; rw [if_neg (by omega)])] at hi
        exact hi
      · rw [if_neg (by rw [nI_leI (by omega) (by omega)]; exact hp)]
        cases hgk : gn k with
        | true =>
          rw [if_neg (by decide), if_pos trivial]
          rw [skip (by unfold rG; rw [if_neg (by rw [hgk]; simp)])] at hi
          exact hi
        | false =>
          have hr : rG w gn k = w k := by unfold rG; rw [if_pos ⟨by omega, hgk⟩]
          rw [if_pos (by rfl)]
          by_cases h0 : w k = 0
          · rw [if_pos (by rw [h0]; decide), if_pos trivial]
            rw [skip (by rw [hr, h0])] at hi
            exact hi
          · rw [if_neg (by rw [L0, nI_leI (by omega) (by omega)]; omega), if_neg e10]
            cases ho : gst (rG w gn) k with
            | none =>
              rw [if_pos (by decide)]
              rw [show gst (rG w gn) (k + 1) = some k from if_pos (by rw [ho, hr]; show 0 < w k; omega)] at hi
              exact hi
            | some q =>
              obtain ⟨q1, q2⟩ := gst_s k q ho
              have q3 := (rG_w q2).1
              have hwq := hb q
              rw [show oM (some q) = nI q from rfl, if_neg (nI_pos (by omega))]
              simp (disch := omega) only [ck_in, nI_clamp, hw]
              by_cases h : w q < w k
              · rw [if_neg (by rw [nI_leI (by omega) (by omega)]; omega)]
                rw [show gst (rG w gn) (k + 1) = some k from if_pos (by rw [ho, hr]; show rG w gn q < w k; omega)] at hi
                exact hi
              · rw [if_pos (by rw [nI_leI (by omega) (by omega)]; omega)]
                rw [show gst (rG w gn) (k + 1) = gst (rG w gn) k from if_neg (by rw [ho, hr]; show ¬ rG w gn q < w k; omega), ho] at hi
                exact hi
theorem heavyM {st : St} {w : Nat → Nat} {gn : Nat → Bool} {N : Nat} (hN : 129 ≤ N) (hw : ∀ i, i < 49 → st 88 i = nI (w i)) (hg : ∀ i, i < 49 → st 90 i = bi (gn i)) (hb : ∀ i, w i ≤ 60) : F_X8_heaviest N st = some (oM (gst (rG w gn) 49)) := heavy_lp hw hg hb N 0 (by omega) (by omega)
-- what is left, taken, tied
abbrev GS : Type := (Nat → Nat) × (Nat → Bool) × (Nat → Nat) × (Nat → Nat) × Nat
def gJoin (G : GS) (p : Nat) : Bool := decide (G.2.2.1 (p / 7) < 2) && (decide (G.2.2.1 (p % 7) < 2) && decide (G.2.2.2.1 (p / 7) ≠ G.2.2.2.1 (p % 7)))
def gGrp (grp : Nat → Nat) (a b v : Nat) : Nat := if grp v = grp b then grp a else grp v
def gDeg (deg : Nat → Nat) (a b v : Nat) : Nat := deg v + ((if v = a then 1 else 0) + (if v = b then 1 else 0))
def gStep (G : GS) (p : Nat) : GS := if gJoin G p then (fun i => if i = p then 0 else G.1 i, fun i => decide (i = p) || G.2.1 i, gDeg G.2.2.1 (p / 7) (p % 7), gGrp G.2.2.2.1 (p / 7) (p % 7), G.2.2.2.2 + 1) else (fun i => if i = p then 0 else G.1 i, G.2)
def gRun : Nat → GS → GS
  | 0, G => G
  | f + 1, G => match gst G.1 49 with
    | none => G
    | some p => gRun f (gStep G p)
def nz (r : Nat → Nat) : Nat := sumR (fun i => if r i = 0 then 0 else 1) 49
def lf (w : Nat → Nat) (tk : Nat → Bool) : Nat := sumR (fun k => if k / 7 < k % 7 ∧ tk k = false then w k else 0) 49
theorem sumR_upd {f : Nat → Nat} {p x : Nat} : ∀ n, p < n → sumR (fun i => if i = p then x else f i) n + f p = sumR f n + x := by
  intro n
  induction n with
  | zero => intro h; omega
  | succ n ih =>
    intro h
    unfold sumR
    by_cases e : n = p
    · subst e
      rw [if_pos rfl, sumR_congr (f := fun i => if i = n then x else f i) (g := f) n (fun i hi => if_neg (by omega))]
      omega
    · rw [if_neg e]
      have := ih (by omega)
      omega
theorem nz_step {r : Nat → Nat} {p : Nat} (hp : p < 49) (h : 0 < r p) : nz (fun i => if i = p then 0 else r i) + 1 = nz r := by
  have := sumR_upd (f := fun i => if r i = 0 then 0 else 1) (p := p) (x := 0) 49 hp
  rw [if_neg (show ¬ r p = 0 by omega), Nat.add_zero] at this
  have e : sumR (fun i => if (if i = p then 0 else r i) = 0 then 0 else 1) 49 = sumR (fun i => if i = p then 0 else (if r i = 0 then 0 else 1)) 49 := by
    apply sumR_congr
    intro i _
    by_cases e : i = p
    · simp [e]
    · simp [e]
  unfold nz
  rw [e]
  exact this
theorem nz_le (r : Nat → Nat) : nz r ≤ 49 := by
  have : ∀ n, sumR (fun i => if r i = 0 then 0 else 1) n ≤ n := by
    intro n
    induction n with
    | zero => exact Nat.le_refl _
    | succ n ih => unfold sumR; split <;> omega
  exact this 49
theorem nz_pos {r : Nat → Nat} {p : Nat} (hp : p < 49) (h : 0 < r p) : 0 < nz r := by
  have := nz_step hp h
  omega
theorem lf_step {w : Nat → Nat} {tk : Nat → Bool} {p : Nat} (hp : p < 49) (h1 : p / 7 < p % 7) (h2 : tk p = false) : lf w (fun i => decide (i = p) || tk i) + w p = lf w tk := by
  have := sumR_upd (f := fun k => if k / 7 < k % 7 ∧ tk k = false then w k else 0) (p := p) (x := 0) 49 hp
  rw [if_pos ⟨h1, h2⟩, Nat.add_zero] at this
  have e : sumR (fun k => if k / 7 < k % 7 ∧ (decide (k = p) || tk k) = false then w k else 0) 49 = sumR (fun i => if i = p then 0 else (if i / 7 < i % 7 ∧ tk i = false then w i else 0)) 49 := by
    apply sumR_congr
    intro i _
    by_cases e : i = p
    · simp [e]
    · simp [e]
  unfold lf
  rw [e]
  exact this
def WG (w : Nat → Nat) (G : GS) : Prop := (∀ i, i < 49 → 0 < G.1 i → G.1 i = w i ∧ i / 7 < i % 7 ∧ G.2.1 i = false) ∧ (∀ v, v < 7 → G.2.2.1 v ≤ 2) ∧ ∀ v, v < 7 → G.2.2.2.1 v < 7
theorem gStep_WG {w : Nat → Nat} {G : GS} {p : Nat} (hp : p < 49) (hpq : p / 7 < p % 7) (h : WG w G) : WG w (gStep G p) := by
  obtain ⟨h1, h2, h3⟩ := h
  unfold gStep
  by_cases hj : gJoin G p = true
  · rw [if_pos hj]
    unfold gJoin at hj
    simp only [Bool.and_eq_true, decide_eq_true_eq] at hj
    refine ⟨?_, ?_, ?_⟩
    · intro i hi hr
      simp only at hr ⊢
      by_cases e : i = p
      · rw [if_pos e] at hr; omega
      · rw [if_neg e] at hr
        rw [if_neg e]
        have := h1 i hi hr
        exact ⟨this.1, this.2.1, by simp [e, this.2.2]⟩
    · intro v hv
      show gDeg G.2.2.1 (p / 7) (p % 7) v ≤ 2
      unfold gDeg
      have := h2 v hv
      by_cases e1 : v = p / 7
      · rw [e1, if_pos rfl, if_neg (by omega)]; omega
      · rw [if_neg e1]
        by_cases e2 : v = p % 7
        · rw [e2, if_pos rfl]; omega
        · rw [if_neg e2]; omega
    · intro v hv
      show gGrp G.2.2.2.1 (p / 7) (p % 7) v < 7
      unfold gGrp
      split
      · exact h3 _ (by omega)
      · exact h3 v hv
  · rw [if_neg hj]
    refine ⟨?_, h2, h3⟩
    intro i hi hr
    simp only at hr ⊢
    by_cases e : i = p
    · rw [if_pos e] at hr; omega
    · rw [if_neg e] at hr
      rw [if_neg e]
      exact h1 i hi hr
theorem gStep_r (G : GS) (p : Nat) : (gStep G p).1 = fun i => if i = p then 0 else G.1 i := by
  unfold gStep
  split <;> rfl
-- the class's loops
theorem join_lp {st : St} {grp : Nat → Nat} {a b : Nat} (ha : a < 7) (hne : grp a ≠ grp b) (h7 : ∀ v, v < 7 → grp v < 7) (hb7 : b < 7) : ∀ (m i : Nat) (g : Nat → Int32), i ≤ 7 → 7 - i < m → (∀ v, v < 7 → g v = nI (if v < i then gGrp grp a b v else grp v)) → ∃ g' : Nat → Int32, lp_X0_join_64 (nI a) (nI (grp b)) m (nI i) (upr st 69 g) = some (upr st 69 g') ∧ ∀ v, v < 7 → g' v = nI (gGrp grp a b v) := by
  intro m
  induction m with
  | zero => intro i g h1 h2; omega
  | succ m ih =>
    intro i g h1 h2 h3
    change ∃ g' : Nat → Int32, lpB_X0_join_64 (nI a) (nI (grp b)) (lp_X0_join_64 (nI a) (nI (grp b)) m) (nI i) (upr st 69 g) = _ ∧ _
    unfold lpB_X0_join_64
    by_cases hi : i = 7
    · subst hi
      rw [if_pos (by decide)]
      exact ⟨g, rfl, fun v hv => by rw [h3 v hv, if_pos hv]⟩
    · rw [if_neg (by rw [L7]; exact nI_ge (by omega) (by decide))]
      have ei : g i = nI (grp i) := by rw [h3 i (by omega), if_neg (by omega)]
      have ea : g a = nI (grp a) := by
        rw [h3 a ha]
        split
        · unfold gGrp; rw [if_neg hne]
        · rfl
      have r69 : ∀ g, (upr st 69 g) 69 = g := fun g => by rw [upr_app, if_pos rfl]
      simp (disch := omega) only [lt_eq, ck_in, nI_clamp, nI_1, up_upr, r69, ei, ea]
      have hgi := h7 i (by omega)
      have hgb := h7 b hb7
      by_cases e : grp i = grp b
      · rw [if_pos (by rw [e])]
        refine ih (i + 1) _ (by omega) (by omega) ?_
        intro v hv
        rw [upd_app]
        by_cases ev : v = i
        · rw [if_pos ev, ev, if_pos (by omega)]
          unfold gGrp
          rw [if_pos e]
        · rw [if_neg ev, h3 v hv]
          by_cases q : v < i
          · rw [if_pos q, if_pos (by omega)]
          · rw [if_neg q, if_neg (by omega)]
      · rw [if_neg (by rw [nI_eq (by omega) (by omega)]; exact e)]
        refine ih (i + 1) _ (by omega) (by omega) ?_
        intro v hv
        rw [h3 v hv]
        by_cases ev : v = i
        · rw [ev, if_neg (by omega), if_pos (by omega)]
          unfold gGrp
          rw [if_neg e]
        · by_cases q : v < i
          · rw [if_pos q, if_pos (by omega)]
          · rw [if_neg q, if_neg (by omega)]
def mir (i : Nat) : Nat := i % 7 * 7 + i / 7
/-- the class's Greedy holds G -/
def GX (w : Nat → Nat) (G : GS) (st : St) : Prop := (∀ i, i < 49 → st 67 i = nI (G.1 i)) ∧ (∀ i, i < 49 → st 66 i = bi (G.2.1 i || G.2.1 (mir i))) ∧ (∀ v, v < 7 → st 68 v = nI (G.2.2.1 v)) ∧ (∀ v, v < 7 → st 69 v = nI (G.2.2.2.1 v)) ∧ st 65 4 = nI G.2.2.2.2 ∧ st 65 5 = nI (lf w G.2.1)
def Fr6 (st st' : St) : Prop := ∀ k, k ≠ 65 → k ≠ 66 → k ≠ 67 → k ≠ 68 → k ≠ 69 → st' k = st k
theorem joinX {w : Nat → Nat} {G : GS} {st : St} {N p : Nat} (hN : 129 ≤ N) (hp : p < 49) (hpq : p / 7 < p % 7) (hW : WG w G) (h : GX w G st) (hne : G.2.2.2.1 (p / 7) ≠ G.2.2.2.1 (p % 7)) : ∃ st' : St, F_X0_join N (nI (p / 7)) (nI (p % 7)) st = some st' ∧ (∀ i, i < 49 → st' 66 i = bi ((decide (i = p) || G.2.1 i) || (decide (mir i = p) || G.2.1 (mir i)))) ∧ (∀ v, v < 7 → st' 68 v = nI (gDeg G.2.2.1 (p / 7) (p % 7) v)) ∧ (∀ v, v < 7 → st' 69 v = nI (gGrp G.2.2.2.1 (p / 7) (p % 7) v)) ∧ st' 65 4 = nI (G.2.2.2.2 + 1) ∧ st' 65 5 = st 65 5 ∧ st' 67 = st 67 ∧ Fr6 st st' := by
  obtain ⟨h1, h2, h3, h4, h5, h6⟩ := h
  have ha : p / 7 < 7 := by omega
  have hb : p % 7 < 7 := by omega
  have hmir : ∀ i, i < 49 → (mir i = p ↔ i = p % 7 * 7 + p / 7) := fun i hi => by unfold mir; omega
  have hpp : p / 7 * 7 + p % 7 = p := by omega
  generalize hA : p / 7 = a at *
  generalize hB : p % 7 = b at *
  obtain ⟨g', j1, j2⟩ := join_lp (st := up (up (up (up (up st 66 (a * 7 + b) 1) 66 (b * 7 + a) 1) 68 a (nI (G.2.2.1 a + 1))) 68 b (nI (G.2.2.1 b + 1))) 65 4 (nI (G.2.2.2.2 + 1))) ha hne hW.2.2 hb N 0 (st 69) (by omega) (by omega) (fun v hv => by rw [h4 v hv, if_neg (by omega)])
  refine ⟨upr (up (up (up (up (up st 66 (a * 7 + b) 1) 66 (b * 7 + a) 1) 68 a (nI (G.2.2.1 a + 1))) 68 b (nI (G.2.2.1 b + 1))) 65 4 (nI (G.2.2.2.2 + 1))) 69 g', ?_, ?_, ?_, ?_, ?_, ?_, ?_, ?_⟩
  · unfold F_X0_join
    simp (disch := omega) only [lt_eq, L7, pk_mul, nI_add, ck_in, nI_clamp, nb1]
    have q1 : (up (up st 66 (a * 7 + b) 1) 66 (b * 7 + a) 1) 68 a + 1 = nI (G.2.2.1 a + 1) := by
      simp only [up_row, Nat.reduceEqDiff, if_false]
      rw [h3 a ha, nI_1]
    rw [q1]
    have q2 : (up (up (up st 66 (a * 7 + b) 1) 66 (b * 7 + a) 1) 68 a (nI (G.2.2.1 a + 1))) 68 b + 1 = nI (G.2.2.1 b + 1) := by
      simp only [up_row, Nat.reduceEqDiff, if_false, if_true]
      rw [upd_app, if_neg (by omega), h3 b hb, nI_1]
    rw [q2]
    have q3 : (up (up (up (up st 66 (a * 7 + b) 1) 66 (b * 7 + a) 1) 68 a (nI (G.2.2.1 a + 1))) 68 b (nI (G.2.2.1 b + 1))) 65 4 + 1 = nI (G.2.2.2.2 + 1) := by
      simp only [up_row, Nat.reduceEqDiff, if_false]
      rw [h5, nI_1]
    rw [q3]
    have q4 : (up (up (up (up (up st 66 (a * 7 + b) 1) 66 (b * 7 + a) 1) 68 a (nI (G.2.2.1 a + 1))) 68 b (nI (G.2.2.1 b + 1))) 65 4 (nI (G.2.2.2.2 + 1))) 69 = st 69 := by
      simp only [up_row, Nat.reduceEqDiff, if_false]
    rw [q4, h4 b hb]
    rw [← q4, upr_id, nI0] at j1
    exact j1
  · intro i hi
    simp only [upr_app, up_row, Nat.reduceEqDiff, if_false, if_true]
    rw [upd_app, upd_app, h2 i hi]
    by_cases i1 : i = b * 7 + a
    · rw [if_pos i1, (decide_eq_true ((hmir i hi).mpr i1))]
      simp [bi]
    · rw [if_neg i1, decide_eq_false (fun q => i1 ((hmir i hi).mp q))]
      by_cases i2 : i = a * 7 + b
      · rw [if_pos i2, decide_eq_true (show i = p by omega)]
        simp [bi]
      · rw [if_neg i2, decide_eq_false (show ¬ i = p by omega)]
        simp
  · intro v hv
    simp only [upr_app, up_row, Nat.reduceEqDiff, if_false, if_true]
    rw [upd_app, upd_app]
    unfold gDeg
    by_cases e2 : v = b
    · rw [if_pos e2, e2, if_neg (by omega), if_pos rfl]
    · rw [if_neg e2, if_neg e2]
      by_cases e1 : v = a
      · rw [if_pos e1, e1, if_pos rfl]
      · rw [if_neg e1, if_neg e1, h3 v hv]
        rfl
  · intro v hv
    rw [upr_app, if_pos rfl]
    exact j2 v hv
  · simp only [upr_app, up_row, Nat.reduceEqDiff, if_false, if_true]
    rw [upd_app, if_pos rfl]
  · simp only [upr_app, up_row, Nat.reduceEqDiff, if_false, if_true]
    rw [upd_app, if_neg (by decide)]
  · simp only [upr_app, up_row, Nat.reduceEqDiff, if_false]
  · intro k k1 k2 k3 k4 k5
    simp only [upr_app, up_row, if_neg k1, if_neg k2, if_neg k4, if_neg k5]
