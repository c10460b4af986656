-- rows of cells as all ways to lay
def isP (n : Nat) (l : List Nat) : Prop := l.length = n ∧ (∀ c, c ∈ l → c < n) ∧ l.Nodup
theorem take_len {l : List Nat} {k : Nat} (h : k ≤ l.length) : (l.take k).length = k := by rw [List.length_take]; omega
theorem lvs_iff {n : Nat} : ∀ (k : Nat) (pre l : List Nat), pre.length + k = n → (∀ c, c ∈ pre → c < n) → pre.Nodup → (l ∈ lvs n k pre ↔ isP n l ∧ l.take pre.length = pre) := by
  intro k
  induction k with
  | zero =>
    intro pre l h1 h2 h3
    rw [show lvs n 0 pre = [pre] from rfl, List.mem_singleton]
    constructor
    · rintro rfl
      exact ⟨⟨by omega, h2, h3⟩, List.take_length⟩
    · rintro ⟨⟨a1, -, -⟩, h⟩
      rw [List.take_of_length_le (by omega)] at h
      exact h
  | succ k ih =>
    intro pre l h1 h2 h3
    rw [show lvs n (k + 1) pre = (List.range n).flatMap (fun c => if pre.contains c then [] else lvs n k (pre ++ [c])) from rfl, List.mem_flatMap]
    constructor
    · rintro ⟨c, hc, hl⟩
      have hc := List.mem_range.mp hc
      split at hl
      · cases hl
      · next hn =>
        have hn2 : c ∉ pre := by simpa using hn
        obtain ⟨b1, b2⟩ := (ih (pre ++ [c]) l (by rw [List.length_append, List.length_singleton]; omega) (by
          intro d hd
          rcases List.mem_append.mp hd with hd | hd
          · exact h2 d hd
          · rw [List.mem_singleton.mp hd]; exact hc) (by
          rw [List.nodup_append]
          refine ⟨h3, by simp, ?_⟩
          intro a ha b hb
          rw [List.mem_singleton.mp hb]
          rintro rfl
          exact hn2 ha)).mp hl
        refine ⟨b1, ?_⟩
        have := congrArg (List.take pre.length) b2
        rw [List.take_take, List.length_append, List.take_left' rfl, Nat.min_eq_left (by omega)] at this
        exact this
    · rintro ⟨⟨a1, a2, a3⟩, h⟩
      have hlt : pre.length < l.length := by omega
      have ht := take_s hlt
      rw [h] at ht
      have hmem : l.getD pre.length 0 ∈ l := getD_mem hlt
      have hnot : l.getD pre.length 0 ∉ pre := by
        intro hin
        have hin2 : l.getD pre.length 0 ∈ l.take pre.length := by rw [h]; exact hin
        obtain ⟨j, hj1, hj2⟩ := List.mem_iff_getElem.mp hin2
        rw [List.getElem_take] at hj2
        have hj3 : j < pre.length := by rw [List.length_take] at hj1; omega
        have := nodup_inj a3 (i := j) (j := pre.length) (by omega) hlt (by
          rw [List.getD_eq_getElem?_getD, List.getElem?_eq_getElem (show j < l.length by omega)]
          exact hj2)
        omega
      refine ⟨l.getD pre.length 0, List.mem_range.mpr (a2 _ hmem), ?_⟩
      rw [if_neg (by simpa using hnot)]
      refine (ih (pre ++ [l.getD pre.length 0]) l (by rw [List.length_append, List.length_singleton]; omega) ?_ ?_).mpr ⟨⟨a1, a2, a3⟩, ?_⟩
      · intro d hd
        rcases List.mem_append.mp hd with hd | hd
        · exact h2 d hd
        · rw [List.mem_singleton.mp hd]; exact a2 _ hmem
      · rw [List.nodup_append]
        refine ⟨h3, by simp, ?_⟩
        intro a ha b hb
        rw [List.mem_singleton.mp hb]
        rintro rfl
        exact hnot ha
      · rw [List.length_append, List.length_singleton]
        exact ht
theorem perms_iff {n : Nat} {l : List Nat} : l ∈ perms n ↔ isP n l := by
  have := lvs_iff (n := n) n [] l (by simp) (fun c hc => by cases hc) List.nodup_nil
  unfold perms
  rw [this]
  simp
theorem isP_map {n : Nat} {l : List Nat} {f : Nat → Nat} (h : isP n l) (h1 : ∀ x, x < n → f x < n) (h2 : ∀ x y, x < n → y < n → f x = f y → x = y) : isP n (l.map f) := by
  obtain ⟨a1, a2, a3⟩ := h
  refine ⟨by rw [List.length_map]; exact a1, ?_, ?_⟩
  · intro c hc
    obtain ⟨x, hx, rfl⟩ := List.mem_map.mp hc
    exact h1 x (a2 x hx)
  · refine (List.pairwise_map).mpr ?_
    refine List.Pairwise.imp_of_mem ?_ a3
    intro a b ha hb hne he
    exact hne (h2 a b (a2 a ha) (a2 b hb) he)
theorem map_getD {l : List Nat} {f : Nat → Nat} {j d : Nat} (h : j < l.length) : (l.map f).getD j d = f (l.getD j d) := by
  rw [List.getD_eq_getElem?_getD, List.getD_eq_getElem?_getD, List.getElem?_map, List.getElem?_eq_getElem h]
  rfl
-- the first of the least that is below a limit
abbrev BA : Type := Nat × Option (List Nat)
def fB (val : List Nat → Nat) (a : BA) (l : List Nat) : BA := if val l < a.1 then (val l, some l) else a
theorem fB_le {val : List Nat → Nat} : ∀ (ls : List (List Nat)) (a : BA), (ls.foldl (fB val) a).1 ≤ a.1 ∧ ∀ l, l ∈ ls → (ls.foldl (fB val) a).1 ≤ val l := by
  intro ls
  induction ls with
  | nil => intro a; exact ⟨Nat.le_refl _, fun l h => by cases h⟩
  | cons x xs ih =>
    intro a
    rw [List.foldl_cons]
    obtain ⟨i1, i2⟩ := ih (fB val a x)
    have hx : (fB val a x).1 ≤ a.1 ∧ (fB val a x).1 ≤ val x := by
      unfold fB
      split
      · exact ⟨by show val x ≤ a.1; omega, Nat.le_refl _⟩
      · exact ⟨Nat.le_refl _, by omega⟩
    refine ⟨by omega, fun l hl => ?_⟩
    rcases List.mem_cons.mp hl with rfl | hl
    · omega
    · exact i2 l hl
theorem fB_skip {val : List Nat → Nat} {a : BA} : ∀ (ls : List (List Nat)), (∀ l, l ∈ ls → a.1 ≤ val l) → ls.foldl (fB val) a = a := by
  intro ls
  induction ls with
  | nil => intro _; rfl
  | cons x xs ih =>
    intro h
    rw [List.foldl_cons]
    have : fB val a x = a := if_neg (by have := h x List.mem_cons_self; omega)
    rw [this]
    exact ih (fun l hl => h l (List.mem_cons_of_mem _ hl))
/-- below a limit, or not -/
theorem fB_fm {val cost : List Nat → Nat} {L : Nat} : ∀ (ls : List (List Nat)) (q : Option (Nat × List Nat)) (a : BA), (∀ l, l ∈ ls → cost l = val l + 1) → (∀ p, q = some p → a = if p.1 < L + 1 then (p.1 - 1, some p.2) else (L, none)) → (∀ p, q = some p → 1 ≤ p.1) → (q = none → a = (L, none)) → ∀ p, ls.foldl (fm cost) q = some p → ls.foldl (fB val) a = if p.1 < L + 1 then (p.1 - 1, some p.2) else (L, none) := by
  intro ls
  induction ls with
  | nil =>
    intro q a h1 h2 h3 h4 p hp
    exact h2 p hp
  | cons x xs ih =>
    intro q a h1 h2 h3 h4 p hp
    rw [List.foldl_cons] at hp ⊢
    have hx := h1 x List.mem_cons_self
    refine ih (fm cost q x) (fB val a x) (fun l hl => h1 l (List.mem_cons_of_mem _ hl)) ?_ ?_ ?_ p hp
    · intro y hy
      cases q with
      | none =>
        rw [h4 rfl]
        cases hy
        unfold fB
        simp only
        by_cases c : val x < L
        · rw [if_pos c, if_pos (by omega), hx]; rfl
        · rw [if_neg c, if_neg (by omega)]
      | some z =>
        have hz := h2 z rfl
        have hz1 := h3 z rfl
        have hfm : fm cost (some z) x = if cost x < z.1 then some (cost x, x) else some z := rfl
        rw [hfm] at hy
        by_cases c : cost x < z.1
        · rw [if_pos c] at hy
          cases hy
          simp only
          by_cases d : z.1 < L + 1
          · rw [if_pos d] at hz
            rw [hz]
            unfold fB
            simp only
            rw [if_pos (by omega), if_pos (by omega), hx]; rfl
          · rw [if_neg d] at hz
            rw [hz]
            unfold fB
            simp only
            by_cases e : val x < L
            · rw [if_pos e, if_pos (by omega), hx]; rfl
            · rw [if_neg e, if_neg (by omega)]
        · rw [if_neg c] at hy
          cases hy
          by_cases d : y.1 < L + 1
          · rw [if_pos d] at hz ⊢
            rw [hz]
            unfold fB
            simp only
            rw [if_neg (by omega)]
          · rw [if_neg d] at hz ⊢
            rw [hz]
            unfold fB
            simp only
            rw [if_neg (by omega)]
    · intro y hy
      cases q with
      | none => cases hy; simp only; omega
      | some z =>
        have hfm : fm cost (some z) x = if cost x < z.1 then some (cost x, x) else some z := rfl
        rw [hfm] at hy
        split at hy
        · cases hy; simp only; omega
        · cases hy; exact h3 y rfl
    · intro hn
      cases q with
      | none => cases hn
      | some z =>
        have hfm : fm cost (some z) x = if cost x < z.1 then some (cost x, x) else some z := rfl
        rw [hfm] at hn
        split at hn <;> cases hn
