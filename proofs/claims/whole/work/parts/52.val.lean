def pcF (b : Nat → Nat) (fr : Nat → Nat → Nat) (v : Nat) : Nat := sumR (fun u => b (v * 7 + u) * fr v u) v
def fcF (fk : List (Option Nat × Nat × Option Nat)) (fr : Nat → Nat → Nat) : Nat := min (fAll fr fk).2.2.2.1 (fAll fr fk).2.2.2.2
/-- cells of the first members, the others lie nowhere -/
def clP (ms pre : List Nat) (v : Nat) : Nat := pre.getD (ms.idxOf v) 7
def psP (F : Nat) (b : Nat → Nat) (ms pre : List Nat) : Nat := sumR (fun j => pcF b (frL F (clP ms pre)) (ms.getD j 0)) pre.length
def vlP (F : Nat) (T : TS) (ms pre : List Nat) : Nat := psP F T.1 ms pre + fcF T.2.1 (frL F (clP ms pre))
theorem getD7 {l : List Nat} {i : Nat} (h : l.length ≤ i) : l.getD i 7 = 7 := by
  rw [List.getD_eq_getElem?_getD, List.getElem?_eq_none h]
  rfl
theorem getD_d {l : List Nat} {i d e : Nat} (h : i < l.length) : l.getD i d = l.getD i e := by
  rw [List.getD_eq_getElem?_getD, List.getD_eq_getElem?_getD, List.getElem?_eq_getElem h]
  rfl
theorem idx_out {l : List Nat} {v : Nat} (h : v ∉ l) : l.idxOf v = l.length := List.idxOf_eq_length h
theorem mems_inc (set : Nat) {i j : Nat} (hij : i < j) (hj : j < (mems set).length) : (mems set).getD i 0 < (mems set).getD j 0 := by
  have h : (mems set).Pairwise (· < ·) := List.Pairwise.filter _ List.pairwise_lt_range
  have := (List.pairwise_iff_getElem.mp h) i j (by omega) hj hij
  rw [List.getD_eq_getElem?_getD, List.getD_eq_getElem?_getD, List.getElem?_eq_getElem hj, List.getElem?_eq_getElem (show i < (mems set).length by omega)]
  exact this
theorem mems_idx {set j : Nat} (hj : j < (mems set).length) : (mems set).idxOf ((mems set).getD j 0) = j := by
  obtain ⟨i1, i2⟩ := idx_getD (getD_mem hj)
  exact mems_inj i1 hj i2
theorem mems_before {set j u : Nat} (hj : j < (mems set).length) (hu : u ∈ mems set) (h : u < (mems set).getD j 0) : (mems set).idxOf u < j := by
  obtain ⟨i1, i2⟩ := idx_getD hu
  rcases Nat.lt_trichotomy ((mems set).idxOf u) j with q | q | q
  · exact q
  · rw [q] at i2; omega
  · have := mems_inc set q i1
    omega
theorem take_getD {l l' : List Nat} {k i : Nat} (h : l.take k = l'.take k) (hi : i < k) : l.getD i 7 = l'.getD i 7 := by
  have : l[i]? = l'[i]? := by
    rw [← List.getElem?_take_of_lt hi, h, List.getElem?_take_of_lt hi]
  rw [List.getD_eq_getElem?_getD, List.getD_eq_getElem?_getD, this]
theorem pc_congr {F set j : Nat} {b : Nat → Nat} {l l' : List Nat} (hj : j < (mems set).length) (hl : l.length ≤ (mems set).length) (hl' : l'.length ≤ (mems set).length) (h : l.take (j + 1) = l'.take (j + 1)) : pcF b (frL F (clP (mems set) l)) ((mems set).getD j 0) = pcF b (frL F (clP (mems set) l')) ((mems set).getD j 0) := by
  unfold pcF
  apply sumR_congr
  intro u hu
  congr 1
  unfold frL
  have e1 : clP (mems set) l ((mems set).getD j 0) = clP (mems set) l' ((mems set).getD j 0) := by
    unfold clP
    rw [mems_idx hj]
    exact take_getD h (by omega)
  have e2 : clP (mems set) l u = clP (mems set) l' u := by
    unfold clP
    by_cases hm : u ∈ mems set
    · exact take_getD h (by have := mems_before hj hm hu; omega)
    · rw [idx_out hm, getD7 hl, getD7 hl']
  rw [e1, e2]
theorem psP_add {F set c : Nat} {b : Nat → Nat} {pre : List Nat} (h : pre.length < (mems set).length) : psP F b (mems set) (pre ++ [c]) = psP F b (mems set) pre + pcF b (frL F (clP (mems set) (pre ++ [c]))) ((mems set).getD pre.length 0) := by
  unfold psP
  rw [List.length_append, List.length_singleton]
  show sumR _ pre.length + _ = _
  congr 1
  apply sumR_congr
  intro j hj
  refine pc_congr (by omega) (by rw [List.length_append, List.length_singleton]; omega) (by omega) ?_
  rw [List.take_append_of_le_length (by omega)]
theorem sumR_le {f : Nat → Nat} : ∀ d k, sumR f k ≤ sumR f (k + d) := by
  intro d
  induction d with
  | zero => intro k; exact Nat.le_refl _
  | succ d ih =>
    intro k
    have := ih k
    show sumR f k ≤ sumR f (k + d) + f (k + d)
    omega
theorem psP_le {F set : Nat} {b : Nat → Nat} {pre l : List Nat} (hl : l.length = (mems set).length) (hp : pre.length ≤ l.length) (h : l.take pre.length = pre) : psP F b (mems set) pre ≤ psP F b (mems set) l := by
  unfold psP
  have e : sumR (fun j => pcF b (frL F (clP (mems set) pre)) ((mems set).getD j 0)) pre.length = sumR (fun j => pcF b (frL F (clP (mems set) l)) ((mems set).getD j 0)) pre.length := by
    apply sumR_congr
    intro j hj
    refine pc_congr (by omega) (by omega) (by omega) ?_
    conv => lhs; rw [← h]
    rw [List.take_take, Nat.min_eq_left (by omega)]
  rw [e]
  have := sumR_le (f := fun j => pcF b (frL F (clP (mems set) l)) ((mems set).getD j 0)) (l.length - pre.length) pre.length
  rw [show pre.length + (l.length - pre.length) = l.length by omega] at this
  exact this
def fRel (G G' : FS5) : Prop := G.1 ≤ G'.1 ∧ G.2.1 = G'.2.1 ∧ G.2.2.1 = G'.2.2.1 ∧ G.2.2.2.1 ≤ G'.2.2.2.1 ∧ G.2.2.2.2 ≤ G'.2.2.2.2
theorem fSt_rel {G G' : FS5} {q : Option Nat} (h : fRel G G') : fRel (fSt G q) (fSt G' q) := by
  cases q with
  | none => exact h
  | some a => exact ⟨h.1, rfl, rfl, h.1, h.1⟩
theorem fr8_le {fr fr' : Nat → Nat → Nat} (hm : ∀ a v, fr a v ≤ fr' a v) (a v : Nat) : fr8 fr a v ≤ fr8 fr' a v := by
  unfold fr8
  split
  · exact Nat.le_refl _
  · exact hm a v
theorem fStep_rel {fr fr' : Nat → Nat → Nat} (hm : ∀ a v, fr a v ≤ fr' a v) {G G' : FS5} {q : Option Nat × Nat × Option Nat} (h : fRel G G') : fRel (fStep fr G q) (fStep fr' G' q) := by
  obtain ⟨s1, s2, s3, s4, s5⟩ := fSt_rel (q := q.1) h
  obtain ⟨q1, q2, q3⟩ := q
  simp only at s1 s2 s3 s4 s5
  unfold fStep
  have h1 := fr8_le hm (fSt G' q1).2.1 q2
  have h2 := fr8_le hm (fSt G' q1).2.2.1 q2
  cases q3 with
  | none =>
    simp only
    rw [s2, s3]
    refine ⟨?_, rfl, rfl, ?_, ?_⟩ <;> simp only <;> omega
  | some y =>
    simp only
    have h3 := fr8_le hm (fSt G' q1).2.1 y
    have h4 := fr8_le hm (fSt G' q1).2.2.1 y
    rw [s2, s3]
    refine ⟨h.1, rfl, rfl, ?_, ?_⟩ <;> simp only <;> omega
theorem fAll_rel {fr fr' : Nat → Nat → Nat} (hm : ∀ a v, fr a v ≤ fr' a v) : ∀ (fk : List (Option Nat × Nat × Option Nat)) (G G' : FS5), fRel G G' → fRel (fk.foldl (fStep fr) G) (fk.foldl (fStep fr') G') := by
  intro fk
  induction fk with
  | nil => intro G G' h; exact h
  | cons q qs ih => intro G G' h; exact ih _ _ (fStep_rel hm h)
theorem fc_mono {fr fr' : Nat → Nat → Nat} (hm : ∀ a v, fr a v ≤ fr' a v) (fk : List (Option Nat × Nat × Option Nat)) : fcF fk fr ≤ fcF fk fr' := by
  have h := fAll_rel hm fk (0, 7, 7, 0, 0) (0, 7, 7, 0, 0) ⟨Nat.le_refl _, rfl, rfl, Nat.le_refl _, Nat.le_refl _⟩
  have h4 := h.2.2.2.1
  have h5 := h.2.2.2.2
  unfold fcF fAll
  omega
theorem fz_7 (F y : Nat) : fz F 7 y = 0 := by unfold fz; simp
theorem fz_7' (F y : Nat) : fz F y 7 = 0 := by unfold fz; simp
theorem frL_mono {F set : Nat} {pre l : List Nat} (h : l.take pre.length = pre) (a v : Nat) : frL F (clP (mems set) pre) a v ≤ frL F (clP (mems set) l) a v := by
  have key : ∀ x, clP (mems set) pre x = 7 ∨ clP (mems set) pre x = clP (mems set) l x := by
    intro x
    unfold clP
    by_cases hx : (mems set).idxOf x < pre.length
    · right
      have : l.take pre.length = pre.take pre.length := by rw [h, List.take_length]
      exact (take_getD this hx).symm
    · left
      exact getD7 (by omega)
  unfold frL
  rcases key a with e | e
  · rw [e, fz_7]; exact Nat.zero_le _
  · rcases key v with e2 | e2
    · rw [e2, fz_7']; exact Nat.zero_le _
    · rw [e, e2]; exact Nat.le_refl _
theorem vl_bound {F set : Nat} {T : TS} {pre l : List Nat} (hl : l.length = (mems set).length) (hp : pre.length ≤ l.length) (h : l.take pre.length = pre) : psP F T.1 (mems set) pre ≤ vlP F T (mems set) l ∧ psP F T.1 (mems set) pre + fcF T.2.1 (frL F (clP (mems set) pre)) ≤ vlP F T (mems set) l := by
  have h1 := psP_le (F := F) (b := T.1) hl hp h
  have h2 := fc_mono (frL_mono (F := F) (set := set) h) T.2.1
  unfold vlP
  constructor <;> omega
theorem vl_sym {F n set : Nat} {T : TS} {l : List Nat} {f : Nat → Nat} (hn : n ≤ 7) (hl : ∀ c, c ∈ l → c < n) (hf : ∀ x, x < n → f x < n) (h : ∀ x y, x < n → y < n → fz F (f x) (f y) = fz F x y) : vlP F T (mems set) (l.map f) = vlP F T (mems set) l := by
  have e : frL F (clP (mems set) (l.map f)) = frL F (clP (mems set) l) := by
    funext u v
    unfold frL clP
    have key : ∀ i, (l.map f).getD i 7 = if i < l.length then f (l.getD i 7) else 7 := by
      intro i
      by_cases hi : i < l.length
      · rw [if_pos hi, map_getD hi]
      · rw [if_neg hi, getD7 (by rw [List.length_map]; omega)]
    have low : ∀ i, i < l.length → l.getD i 7 < n := fun i hi => by
      rw [getD_d (e := 0) hi]
      exact hl _ (getD_mem hi)
    rw [key, key]
    generalize (mems set).idxOf u = i
    generalize (mems set).idxOf v = j
    by_cases hi : i < l.length
    · rw [if_pos hi]
      by_cases hj : j < l.length
      · rw [if_pos hj]
        exact h _ _ (low i hi) (low j hj)
      · rw [if_neg hj, getD7 (show l.length ≤ j by omega), fz_7', fz_7']
    · rw [if_neg hi, getD7 (show l.length ≤ i by omega), fz_7, fz_7]
  unfold vlP psP
  rw [e, List.length_map]
theorem sum_mems {set : Nat} {h : Nat → Nat} (hz : ∀ v, v < 7 → set.testBit v = false → h v = 0) : ∀ k, k ≤ 7 → sumR h k = sumR (fun j => h ((msK set k).getD j 0)) (msK set k).length := by
  intro k
  induction k with
  | zero => intro _; rfl
  | succ k ih =>
    intro hk
    have hi := ih (by omega)
    show sumR h k + h k = _
    rw [msK_s]
    cases hb : set.testBit k with
    | false =>
      rw [if_neg (by decide), hz k (by omega) hb, hi]
      rfl
    | true =>
      rw [if_pos rfl, List.length_append, List.length_singleton, hi]
      show _ = sumR _ (msK set k).length + _
      congr 1
      · apply sumR_congr
        intro j hj
        rw [getD_a1 hj]
      · exact congrArg h getD_a2.symm
theorem clP_lt {set v n : Nat} {l : List Nat} (hl : l.length = (mems set).length) (hc : ∀ c, c ∈ l → c < n) (hv : v < 7) (hb : set.testBit v = true) : clP (mems set) l v = cellOf (mems set) l v ∧ clP (mems set) l v < n := by
  obtain ⟨i1, -⟩ := idx_getD (mems_mem.mpr ⟨hv, hb⟩)
  unfold clP cellOf
  have e := getD_d (l := l) (d := 7) (e := 0) (i := (mems set).idxOf v) (by omega)
  exact ⟨e, by rw [e]; exact hc _ (getD_mem (by omega))⟩
/-- the cost of a row of cells, as the class adds it up -/
theorem cost_vl {S : Sn} {set : Nat} {mode : Bool} {l : List Nat} (hS : SnOk S) (h0 : 0 < set) (h1 : set < 128) (h2 : sub set (usedS S) = true) (hl : rowOk (mems set).length l) : costRow S set mode l = vlP (sF S) (tRun S (fun v => set.testBit v) (fun v => (mayB S mode).testBit v) (fun v => (0 : Nat).testBit v) (sN S)) (mems set) l + 1 := by
  have hpos := cost_pos (mode := mode) (row := l) hS h0 h1 h2
  have hlen := mems_len set
  have hcl : ∀ v, v < 7 → set.testBit v = true → clP (mems set) l v < 7 := fun v hv hb => by
    have := (clP_lt hl.1 hl.2 hv hb).2
    omega
  have ht := trace_cost (mode := mode) hS hcl
  have e : py S (frC (sF S) (clP (mems set) l)) (fun v => set.testBit v) mode (sN S) 7 = costRow S set mode l := by
    unfold costRow
    rw [py_pyG, py_pyG]
    refine pyG_congr hS ?_ (fun s _ => rfl) (fun s _ => rfl) (sN S) 7 (Nat.le_refl _) (Or.inl rfl)
    intro a v ha hv ma mv
    unfold frC
    rw [(clP_lt hl.1 hl.2 ha ma).1, (clP_lt hl.1 hl.2 hv mv).1]
  rw [e] at ht
  rw [← ht] at hpos ⊢
  generalize tRun S (fun v => set.testBit v) (fun v => (mayB S mode).testBit v) (fun v => (0 : Nat).testBit v) (sN S) = T at *
  unfold tCost at *
  by_cases hc : T.2.2.1 = 7 ∧ T.2.2.2 = false
  · rw [if_pos hc] at hpos; omega
  · rw [if_neg hc]
    have hs : pS (frL (sF S) (clP (mems set) l)) T.1 = psP (sF S) T.1 (mems set) l := by
      have := sum_mems (set := set) (h := pcF T.1 (frL (sF S) (clP (mems set) l))) (by
        intro v hv hb
        have hnot : v ∉ mems set := fun q => by
          have := (mems_mem.mp q).2
          rw [hb] at this
          cases this
        have h7 : clP (mems set) l v = 7 := by
          unfold clP
          rw [idx_out hnot]
          exact getD7 (by rw [hl.1]; exact Nat.le_refl _)
        unfold pcF frL
        rw [h7]
        have : ∀ k, sumR (fun u => T.1 (v * 7 + u) * fz (sF S) 7 (clP (mems set) l u)) k = sumR (fun _ => 0) k := by
          intro k
          apply sumR_congr
          intro u _
          rw [fz_7, Nat.mul_zero]
        rw [this, sumR_zero]) 7 (Nat.le_refl _)
      unfold psP
      rw [hl.1]
      exact this
    rw [hs]
    unfold vlP fcF
    omega
