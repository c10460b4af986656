def asT (r k : Nat) (pre : List Nat) : List (List Nat) := (asgs r k).map (fun l => pre ++ l)
def asC (r k : Nat) (pre : List Nat) (c : Nat) : List (List Nat) := (List.range c).flatMap (fun g => asT r k (pre ++ [g]))
theorem asC_s {r k c : Nat} {pre : List Nat} : asC r k pre (c + 1) = asC r k pre c ++ asT r k (pre ++ [c]) := by
  unfold asC
  rw [List.range_succ, List.flatMap_append]
  simp
theorem asT_s {r k : Nat} {pre : List Nat} : asT r (k + 1) pre = asC r k pre r := by
  unfold asT asC asT
  rw [show asgs r (k + 1) = (List.range r).flatMap (fun g => (asgs r k).map (fun l => g :: l)) from rfl, List.map_flatMap]
  congr 1
  funext g
  rw [List.map_map]
  apply List.map_congr_left
  intro l _
  simp
theorem asgs_iff {r : Nat} : ∀ k (l : List Nat), l ∈ asgs r k ↔ l.length = k ∧ ∀ g, g ∈ l → g < r := by
  intro k
  induction k with
  | zero =>
    intro l
    rw [show asgs r 0 = [[]] from rfl, List.mem_singleton]
    constructor
    · rintro rfl; exact ⟨rfl, fun g hg => by cases hg⟩
    · rintro ⟨h, -⟩; exact List.eq_nil_of_length_eq_zero h
  | succ k ih =>
    intro l
    constructor
    · exact asgs_lt (k + 1) l
    · rintro ⟨h1, h2⟩
      cases l with
      | nil => cases h1
      | cons g t =>
        rw [show asgs r (k + 1) = (List.range r).flatMap (fun g => (asgs r k).map (fun l => g :: l)) from rfl, List.mem_flatMap]
        refine ⟨g, List.mem_range.mpr (h2 g List.mem_cons_self), List.mem_map.mpr ⟨t, (ih t).mpr ⟨by rw [List.length_cons] at h1; omega, fun x hx => h2 x (List.mem_cons_of_mem _ hx)⟩, rfl⟩⟩
theorem swp_swp (x y z : Nat) : swp x y (swp x y z) = z := by
  unfold swp
  by_cases a : z = x
  · rw [if_pos a]
    by_cases b : y = x
    · rw [if_pos b]; omega
    · rw [if_neg b, if_pos rfl]; omega
  · rw [if_neg a]
    by_cases b : z = y
    · rw [if_pos b, if_pos rfl]; omega
    · rw [if_neg b, if_neg a, if_neg b]
theorem blk_sym {used x y g : Nat} {l : List Nat} (hl : l.length = (mems used).length) : blk (mems used) (l.map (swp x y)) g = blk (mems used) l (swp x y g) := by
  apply Nat.eq_of_testBit_eq
  intro w
  rw [Bool.eq_iff_iff, blk_iff (by rw [List.length_map]; exact hl), blk_iff hl]
  constructor
  · rintro ⟨h1, h2, h3⟩
    refine ⟨h1, h2, ?_⟩
    obtain ⟨i1, -⟩ := idx_getD (mems_mem.mpr ⟨h1, h2⟩)
    unfold cellOf at *
    rw [map_getD (by omega)] at h3
    rw [← h3, swp_swp]
  · rintro ⟨h1, h2, h3⟩
    refine ⟨h1, h2, ?_⟩
    obtain ⟨i1, -⟩ := idx_getD (mems_mem.mpr ⟨h1, h2⟩)
    unfold cellOf at *
    rw [map_getD (by omega), h3, swp_swp]
theorem costAsg_sym {S : Sn} {mode : Bool} {x y : Nat} {l : List Nat} (hx : x < 3) (hy : y < 3) (hl : l.length = (mems (usedS S)).length) : costAsg S mode (l.map (swp x y)) = costAsg S mode l := by
  unfold costAsg
  rw [blk_sym hl, blk_sym hl, blk_sym hl]
  rcases (show x = 0 ∨ x = 1 ∨ x = 2 by omega) with rfl | rfl | rfl <;> rcases (show y = 0 ∨ y = 1 ∨ y = 2 by omega) with rfl | rfl | rfl <;> simp [swp] <;> omega
theorem rg_lt {used fl x : Nat} {pre : List Nat} (hp : pre.length ≤ (mems used).length) (hR : RG used pre fl) (hx : x ∈ pre) : x < fl := by
  obtain ⟨j, j1, j2⟩ := List.mem_iff_getElem.mp hx
  apply (hR x).mp
  rcases Nat.eq_zero_or_pos (blk (mems used) pre x) with h | h
  · have := (blk_bp (used := used) (g := x) (w := (mems used).getD j 0) hp).mpr ⟨j, j1, rfl, by rw [List.getD_eq_getElem?_getD, List.getElem?_eq_getElem j1]; exact j2⟩
    rw [h] at this
    simp at this
  · exact h
theorem popK_sub {a b v : Nat} (hs : ∀ i, i < 7 → a.testBit i = true → b.testBit i = true) (hb : b.testBit v = true) (ha : a.testBit v = false) : ∀ k, k ≤ 7 → popK a k ≤ popK b k ∧ (v < k → popK a k < popK b k) := by
  intro k
  induction k with
  | zero => intro _; exact ⟨Nat.le_refl _, fun h => by omega⟩
  | succ k ih =>
    intro hk
    obtain ⟨i1, i2⟩ := ih (by omega)
    rw [popK_s, popK_s]
    have h1 := hs k (by omega)
    by_cases e : v = k
    · subst e
      rw [ha, hb]
      simp
      omega
    · cases h2 : a.testBit k with
      | false =>
        simp
        exact ⟨by omega, fun h => by have := i2 (by omega); omega⟩
      | true =>
        rw [h1 h2]
        simp
        exact ⟨i1, fun h => i2 (by omega)⟩
theorem blk_wid {used g : Nat} {pre : List Nat} (hp : pre.length < (mems used).length) : (mems (blk (mems used) pre g)).length < (mems used).length := by
  have h1 := (blk_facts (used := used) (g := g) (pre := pre) (by omega)).2
  exact (popK_sub (sub_iff.mp h1) (mems_bit hp) (blk_out hp) 7 (Nat.le_refl _)).2 (mems_lt hp)
theorem dvs_all {S : Sn} {mode : Bool} {w r : Nat} (hr3 : r ≤ 3) (hw : (mems (usedS S)).length ≤ w) : ∀ (k : Nat) (pre : List Nat) (fl : Nat) (a : BA), pre.length + k = (mems (usedS S)).length → fl ≤ r → RG (usedS S) pre fl → (dvs (mems (usedS S)) w r k pre fl).foldl (fB (costAsg S mode)) a = (asT r k pre).foldl (fB (costAsg S mode)) a := by
  intro k
  induction k with
  | zero =>
    intro pre fl a _ _ _
    show [pre].foldl _ a = ([[]].map (fun l => pre ++ l)).foldl _ a
    simp
  | succ k ih =>
    intro pre fl a hk hfl hR
    rw [asT_s, show dvs (mems (usedS S)) w r (k + 1) pre fl = dvC (mems (usedS S)) w r k pre fl (min (fl + 1) r) from rfl]
    have h1 : ∀ c, c ≤ min (fl + 1) r → (dvC (mems (usedS S)) w r k pre fl c).foldl (fB (costAsg S mode)) a = (asC r k pre c).foldl (fB (costAsg S mode)) a := by
      intro c
      induction c with
      | zero => intro _; rfl
      | succ c ihc =>
        intro hc
        have hwd := blk_wid (used := usedS S) (g := c) (pre := pre) (by omega)
        rw [dvC_s, asC_s, List.foldl_append, List.foldl_append, ihc (by omega), if_pos (by omega)]
        refine ih (pre ++ [c]) (max fl (c + 1)) _ (by rw [List.length_append, List.length_singleton]; omega) (by omega) ?_
        intro h
        rw [blk_add (by omega)]
        by_cases e : h = c
        · rw [if_pos e]
          constructor
          · intro _; omega
          · intro _
            have := Nat.two_pow_pos ((mems (usedS S)).getD pre.length 0)
            have hle : 2 ^ (mems (usedS S)).getD pre.length 0 ≤ blk (mems (usedS S)) pre h ||| 2 ^ (mems (usedS S)).getD pre.length 0 := Nat.right_le_or
            omega
        · rw [if_neg e, hR h]
          omega
    rw [h1 _ (Nat.le_refl _)]
    have h2 : ∀ d c, fl + 1 ≤ c → c + d = r → (asC r k pre r).foldl (fB (costAsg S mode)) a = (asC r k pre c).foldl (fB (costAsg S mode)) a := by
      intro d
      induction d with
      | zero => intro c _ h; rw [show c = r by omega]
      | succ d ihd =>
        intro c hc1 hc2
        rw [ihd (c + 1) (by omega) (by omega), asC_s, List.foldl_append]
        apply fB_skip
        intro l hl
        obtain ⟨t, ht, rfl⟩ := List.mem_map.mp hl
        obtain ⟨t1, t2⟩ := (asgs_iff k t).mp ht
        have hpre : pre.map (swp fl c) = pre := by
          have : ∀ x, x ∈ pre → swp fl c x = id x := by
            intro x hx
            have := rg_lt (by omega) hR hx
            unfold swp
            rw [if_neg (by omega), if_neg (by omega)]
            rfl
          rw [List.map_congr_left this, List.map_id]
        have hlen : ((pre ++ [c]) ++ t).length = (mems (usedS S)).length := by
          rw [List.length_append, List.length_append, List.length_singleton]; omega
        rw [← costAsg_sym (mode := mode) (x := fl) (y := c) (by omega) (by omega) hlen]
        have hmap : ((pre ++ [c]) ++ t).map (swp fl c) = (pre ++ [fl]) ++ t.map (swp fl c) := by
          rw [List.map_append, List.map_append, hpre]
          congr 2
          show [swp fl c c] = [fl]
          unfold swp
          rw [if_neg (by omega), if_pos rfl]
        rw [hmap]
        refine (fB_le _ _).2 _ ?_
        unfold asC
        rw [List.mem_flatMap]
        refine ⟨fl, List.mem_range.mpr (by omega), List.mem_map.mpr ⟨t.map (swp fl c), (asgs_iff k _).mpr ⟨by rw [List.length_map]; exact t1, ?_⟩, rfl⟩⟩
        intro g hg
        obtain ⟨x, hx, rfl⟩ := List.mem_map.mp hg
        have := t2 x hx
        unfold swp
        split
        · omega
        · split <;> omega
    by_cases c : fl + 1 ≤ r
    · rw [Nat.min_eq_left c]
      exact (h2 (r - (fl + 1)) (fl + 1) (Nat.le_refl _) (by omega)).symm
    · rw [Nat.min_eq_right (by omega)]
theorem dvs_in {us : List Nat} {w r : Nat} : ∀ (k : Nat) (pre : List Nat) (fl : Nat) (l : List Nat), l ∈ dvs us w r k pre fl → l ∈ asT r k pre := by
  intro k
  induction k with
  | zero =>
    intro pre fl l hl
    rw [show dvs us w r 0 pre fl = [pre] from rfl, List.mem_singleton] at hl
    subst hl
    show l ∈ [[]].map (fun t => l ++ t)
    simp
  | succ k ih =>
    intro pre fl l hl
    rw [show dvs us w r (k + 1) pre fl = dvC us w r k pre fl (min (fl + 1) r) from rfl] at hl
    unfold dvC at hl
    rw [List.mem_flatMap] at hl
    obtain ⟨g, hg, hl⟩ := hl
    have hg := List.mem_range.mp hg
    split at hl
    · rw [asT_s]
      unfold asC
      rw [List.mem_flatMap]
      exact ⟨g, List.mem_range.mpr (by omega), ih _ _ l hl⟩
    · cases hl
theorem asT_nil (r k : Nat) : asT r k [] = asgs r k := by
  unfold asT
  simp
theorem fB_in {val : List Nat → Nat} : ∀ (ls : List (List Nat)) (a : BA), (ls.foldl (fB val) a).1 = a.1 ∨ ∃ l, l ∈ ls ∧ (ls.foldl (fB val) a).1 = val l := by
  intro ls
  induction ls with
  | nil => intro a; exact Or.inl rfl
  | cons x xs ih =>
    intro a
    rw [List.foldl_cons]
    rcases ih (fB val a x) with h | ⟨l, h1, h2⟩
    · rw [h]
      unfold fB
      split
      · exact Or.inr ⟨x, List.mem_cons_self, rfl⟩
      · exact Or.inl rfl
    · exact Or.inr ⟨l, List.mem_cons_of_mem _ h1, h2⟩
theorem fB_first {cost : List Nat → Nat} {L : Nat} {o : Option (List Nat)} : ∀ (ls : List (List Nat)) (q : Option (Nat × List Nat)) (a : BA), (∀ p, q = some p → a = if p.1 < L then (p.1, some p.2) else (L, o)) → (q = none → a = (L, o)) → ∀ p, ls.foldl (fm cost) q = some p → ls.foldl (fB cost) a = if p.1 < L then (p.1, some p.2) else (L, o) := by
  intro ls
  induction ls with
  | nil =>
    intro q a h2 h4 p hp
    exact h2 p hp
  | cons x xs ih =>
    intro q a h2 h4 p hp
    rw [List.foldl_cons] at hp ⊢
    refine ih (fm cost q x) (fB cost a x) ?_ ?_ p hp
    · intro y hy
      cases q with
      | none =>
        rw [h4 rfl]
        cases hy
        rfl
      | some z =>
        have hz := h2 z rfl
        have hfm : fm cost (some z) x = if cost x < z.1 then some (cost x, x) else some z := rfl
        rw [hfm] at hy
        by_cases c : cost x < z.1
        · rw [if_pos c] at hy
          cases hy
          simp only
          by_cases d : z.1 < L
          · rw [if_pos d] at hz
            rw [hz]
            unfold fB
            simp only
            rw [if_pos c, if_pos (by omega)]
          · rw [if_neg d] at hz
            rw [hz]
            rfl
        · rw [if_neg c] at hy
          cases hy
          by_cases d : y.1 < L
          · rw [if_pos d] at hz ⊢
            rw [hz]
            unfold fB
            simp only
            rw [if_neg c]
          · rw [if_neg d] at hz ⊢
            rw [hz]
            unfold fB
            simp only
            rw [if_neg (by omega)]
    · intro hn
      cases q with
      | none => cases hn
      | some z =>
        have hfm : fm cost (some z) x = if cost x < z.1 then some (cost x, x) else some z := rfl
        rw [hfm] at hn
        split at hn <;> cases hn
/-- both passes over all ways to give registers find THE PLAN's -/
theorem two_pass {S : Sn} {mode : Bool} {r w1 w2 : Nat} (hS : SnOk S) (hr1 : 1 ≤ r) (hr3 : r ≤ 3) (hw : (mems (usedS S)).length ≤ w2) (o1 : Option (List Nat)) (L1 : Nat) (hL : L1 = ((dvs (mems (usedS S)) w1 r (mems (usedS S)).length [] 0).foldl (fB (costAsg S mode)) (1000, none)).1) : (dvs (mems (usedS S)) w2 r (mems (usedS S)).length [] 0).foldl (fB (costAsg S mode)) (L1 + 1, o1) = ((planA S r mode).1, some (planA S r mode).2) := by
  have hR : RG (usedS S) [] 0 := by
    intro g
    constructor
    · intro h
      obtain ⟨v, -, hb⟩ := set_pos _ (blk_facts (used := usedS S) (g := g) (pre := []) (by simp)).1 h
      obtain ⟨j, j1, -⟩ := (blk_bp (by simp)).mp hb
      simp at j1
    · intro h; omega
  rw [dvs_all (mode := mode) hr3 hw _ [] 0 _ (by simp) (by omega) hR, asT_nil]
  obtain ⟨h1, h2, h3, h4⟩ := planA_len (S := S) (mode := mode) hr1 hr3
  have hne : asgs r (mems (usedS S)).length ≠ [] := by
    intro h
    rw [h] at h2
    cases h2
  obtain ⟨p, p1, -⟩ := fm_none (f := costAsg S mode) hne
  have hp : planA S r mode = p := by
    unfold planA
    rw [p1]
    rfl
  rw [fB_first (L := L1 + 1) (o := o1) _ none (L1 + 1, o1) (fun p h => by cases h) (fun _ => rfl) p p1, ← hp, if_pos]
  have hle := costAsg_le hS mode (planA S r mode).2
  rcases fB_in (val := costAsg S mode) (dvs (mems (usedS S)) w1 r (mems (usedS S)).length [] 0) (1000, none) with h | ⟨l, l1, l2⟩
  · rw [← hL] at h
    rw [h3]
    simp only at h
    omega
  · rw [← hL] at l2
    have := dvs_in _ _ _ l l1
    rw [asT_nil] at this
    have := h4 l this
    omega
