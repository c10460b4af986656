-- forget
theorem forg_a (K : St → Option St) : ∀ (m p : Nat) (st : St), p ≤ 6 → 6 - p < m → (∀ q, q < p → st (38 + 3 * q) 0 = 0) → ∃ st1 : St, lp_X3_forget_2 K m (nI p) st = K st1 ∧ (∀ q, q < 6 → st1 (38 + 3 * q) 0 = 0) ∧ ∀ k j, ((∀ q, q < 6 → k ≠ 38 + 3 * q) ∨ j ≠ 0) → st1 k j = st k j := by
  intro m
  induction m with
  | zero => intro p st h1 h2; omega
  | succ m ih =>
    intro p st h1 h2 hst
    change ∃ st1 : St, lpB_X3_forget_2 K (lp_X3_forget_2 K m) (nI p) st = _ ∧ _
    unfold lpB_X3_forget_2
    by_cases hp : p = 6
    · subst hp
      rw [if_pos (by rw [L6]; exact nI_le (Nat.le_refl _) (by omega))]
      exact ⟨st, rfl, hst, fun _ _ _ => rfl⟩
    · have hp6 : p < 6 := by omega
      rw [if_neg (by rw [L6]; exact nI_ge hp6 (by omega)), ck_in hp6 (by omega), lt_eq, lt_eq, nI_clamp (by omega), nI_1]
      obtain ⟨st1, g1, g2, g3⟩ := ih (p + 1) (up st (38 + 3 * p) 0 0) (by omega) (by omega) (by
        intro q hq
        rw [up_app]
        by_cases hqp : q = p
        · rw [if_pos (by rw [hqp]), if_pos rfl]
        · rw [if_neg (by omega)]; exact hst q (by omega))
      refine ⟨st1, g1, g2, fun k j hk => ?_⟩
      rw [g3 k j hk, up_app]
      rcases hk with hk | hk
      · rw [if_neg (hk p hp6)]
      · rw [if_neg hk]; split <;> rfl
theorem forg_b {N : Nat} (hN : 129 ≤ N) (st : St) : ∃ st1 : St, lp_X3_forget_29 N N 0 st = some st1 ∧ (∀ (q c : Nat), q < 2 → c < 128 → st1 (57 + q) c = 1 ∧ st1 (60 + q) c = -1) ∧ ∀ k, k ≠ 57 → k ≠ 58 → k ≠ 60 → k ≠ 61 → st1 k = st k := by
  obtain ⟨M, rfl⟩ : ∃ M, N = M + 3 := ⟨N - 3, by omega⟩
  obtain ⟨g0, e0, a0, -⟩ := fillX (a := 57) (n := 128) (N := M + 3) rfl rfl (by decide) (by omega) 1 st
  obtain ⟨g1, e1, a1, -⟩ := fillX (a := 60) (n := 128) (N := M + 3) rfl rfl (by decide) (by omega) (-1) (upr st 57 g0)
  obtain ⟨g2, e2, a2, -⟩ := fillX (a := 58) (n := 128) (N := M + 3) rfl rfl (by decide) (by omega) 1 (upr (upr st 57 g0) 60 g1)
  obtain ⟨g3, e3, a3, -⟩ := fillX (a := 61) (n := 128) (N := M + 3) rfl rfl (by decide) (by omega) (-1) (upr (upr (upr st 57 g0) 60 g1) 58 g2)
  refine ⟨upr (upr (upr (upr st 57 g0) 60 g1) 58 g2) 61 g3, ?_, ?_, ?_⟩
  · change lpB_X3_forget_29 (M + 3) (lpB_X3_forget_29 (M + 3) (lpB_X3_forget_29 (M + 3) (lp_X3_forget_29 (M + 3) M))) 0 st = _
    unfold lpB_X3_forget_29
    rw [if_neg (by decide), show inb (0 : Int32) 2 = true from rfl, ck_t, show (57 + 1 * (0 : Int32).toNatClampNeg) = 57 from rfl, e0, bs_s, ck_t, show (60 + 1 * (0 : Int32).toNatClampNeg) = 60 from rfl, e1, bs_s, lt_eq, show ((0 : Int32) + 1) = 1 from rfl]
    rw [if_neg (by decide), show inb (1 : Int32) 2 = true from rfl, ck_t, show (57 + 1 * (1 : Int32).toNatClampNeg) = 58 from rfl, e2, bs_s, ck_t, show (60 + 1 * (1 : Int32).toNatClampNeg) = 61 from rfl, e3, bs_s, lt_eq, show ((1 : Int32) + 1) = 2 from rfl]
    rw [if_pos (by decide)]
  · intro q c hq hc
    rcases (show q = 0 ∨ q = 1 by omega) with rfl | rfl
    · exact ⟨a0 c hc, a1 c hc⟩
    · exact ⟨a2 c hc, a3 c hc⟩
  · intro k h1 h2 h3 h4
    simp only [upr_app, if_neg h1, if_neg h2, if_neg h3, if_neg h4]
theorem changedX {st : St} {F N : Nat} (hN : 129 ≤ N) (hF : F < 128) (h : st 1 5 = nI F) (hz : ∀ a b, a < 8 → b < 8 → (a = 7 ∨ b = 7) → st 27 (a * 8 + b) = 0) : ∃ st1 : St, F_X7_changed N st = some st1 ∧ (∀ a b, a < 8 → b < 8 → st1 27 (a * 8 + b) = bi (decide (a < 7) && decide (b < 7) && far F a b)) ∧ (∀ q, q < 6 → st1 (38 + 3 * q) 0 = 0) ∧ (∀ (q c : Nat), q < 2 → c < 128 → st1 (57 + q) c = 1 ∧ st1 (60 + q) c = -1) ∧ ∀ k, k ∉ [27, 38, 41, 44, 47, 50, 53, 57, 58, 60, 61] → st1 k = st k := by
  obtain ⟨g, g1, g2⟩ := measX (N := N) (by omega) hF h hz
  obtain ⟨sa, a1, a2, a3⟩ := forg_a (fun (s25 : St) => lt (0 : Int32) (fun (v26 : Int32) => lp_X3_forget_29 N N v26 s25)) N 0 (upr st 27 g) (by omega) (by omega) (fun q hq => by omega)
  obtain ⟨sb, b1, b2, b3⟩ := forg_b hN sa
  refine ⟨sb, ?_, ?_, ?_, b2, ?_⟩
  · unfold F_X7_changed F_X3_forget
    rw [nI0] at a1
    rw [g1, bs_s, lt_eq, a1, lt_eq, b1]
    rfl
  · intro a b ha hb
    rw [b3 27 (by decide) (by decide) (by decide) (by decide), a3 27 _ (Or.inl (fun q hq => by omega)), upr_app, if_pos rfl]
    exact g2 a b ha hb
  · intro q hq
    rw [b3 _ (by omega) (by omega) (by omega) (by omega)]
    exact a2 q hq
  · intro k hk
    simp only [List.mem_cons, List.not_mem_nil, or_false, not_or] at hk
    rw [b3 k hk.2.2.2.2.2.2.2.1 hk.2.2.2.2.2.2.2.2.1 hk.2.2.2.2.2.2.2.2.2.1 hk.2.2.2.2.2.2.2.2.2.2]
    funext j
    rw [a3 k j (Or.inl (fun q hq => by omega)), upr_app, if_neg hk.1]
theorem changeM (st : St) : F_X8_change st = some (up (up st 78 0 1) 78 1 1) := rfl
/-- what the caches are when nothing is known -/
theorem cache_new {S : Sn} {st : St} (hS : SnOk S) (h1 : ∀ a b, a < 8 → b < 8 → st 27 (a * 8 + b) = bi (decide (a < 7) && decide (b < 7) && far (sF S) a b)) (h2 : ∀ q, q < 6 → st (38 + 3 * q) 0 = 0) (h3 : ∀ (q c : Nat), q < 2 → c < 128 → st (57 + q) c = 1 ∧ st (60 + q) c = -1) (h4 : ScrOk st) (h5 : ∀ m, m < 2 → st 78 m = 1) (hpos : ∀ (set : Nat) (mode : Bool), 0 < set → set < 128 → sub set (usedS (pg S)) = true → 1 ≤ (opt (pg S) set mode).1) : Cache S st := by
  refine ⟨h1, h4, ?_, ?_, ?_⟩
  · intro mode set a b c
    obtain ⟨e1, e2⟩ := h3 mode.toNat set (by cases mode <;> decide) b
    exact ⟨1, e1, hpos set mode a b c, Or.inl e2⟩
  · intro r mode a b
    exact Or.inl (h2 _ (by cases mode <;> simp <;> omega))
  · intro mode
    exact Or.inl (h5 _ (by cases mode <;> decide))

-- a cost is above 0
theorem wk_pos {fr : Nat → Nat → Nat} {mem : Nat → Bool} : ∀ (l : List Nat), (∃ v, v ∈ l ∧ mem v = true) → 1 ≤ (wk fr mem 7 l).1 := by
  intro l
  induction l with
  | nil => intro ⟨v, h, _⟩; cases h
  | cons x xs ih =>
    intro ⟨v, h, hm⟩
    unfold wk
    by_cases hx : mem x = true
    · rw [if_pos hx]
      simp
    · rw [if_neg hx]
      refine ih ⟨v, ?_, hm⟩
      rcases List.mem_cons.mp h with rfl | h
      · exact absurd hm hx
      · exact h
theorem wk_none {fr : Nat → Nat → Nat} {mem : Nat → Bool} {a : Nat} : ∀ (l : List Nat), (∀ v, v ∈ l → mem v = false) → wk fr mem a l = (0, a) := by
  intro l
  induction l with
  | nil => intro _; rfl
  | cons x xs ih =>
    intro h
    unfold wk
    rw [h x List.mem_cons_self]
    exact ih (fun v hv => h v (List.mem_cons_of_mem _ hv))
theorem sq_mem {S : Sn} {s v : Nat} {t : Bool} (hc : sK S s = 0 → sR S s = sL S s) : v ∈ sq S s t ↔ (v = sT S s ∨ v = sL S s ∨ v = sR S s) := by
  unfold sq
  by_cases hk : sK S s = 0
  · rw [if_pos hk]
    simp [hc hk]
    constructor
    · rintro (h | h)
      · exact Or.inr h
      · exact Or.inl h
    · rintro (h | h)
      · exact Or.inr h
      · exact Or.inl h
  · rw [if_neg hk]
    cases t <;> simp <;> constructor <;> rintro (h | h | h) <;> simp [h]
theorem py_pos {S : Sn} {fr : Nat → Nat → Nat} {mem : Nat → Bool} {mode : Bool} (hS : ∀ i, i < sN S → sK S i = 0 → sR S i = sL S i) : ∀ (k : Nat), k ≤ sN S → (∃ s v, sN S - k ≤ s ∧ s < sN S ∧ (v = sT S s ∨ v = sL S s ∨ v = sR S s) ∧ mem v = true) → 1 ≤ py S fr mem mode k 7 := by
  intro k
  induction k with
  | zero => intro _ ⟨s, v, h1, h2, _⟩; omega
  | succ k ih =>
    intro hk ⟨s, v, h1, h2, h3, h4⟩
    have hb : ∀ t, 1 ≤ (wk fr mem 7 (sq S (sN S - (k + 1)) t)).1 + py S fr mem mode k (wk fr mem 7 (sq S (sN S - (k + 1)) t)).2 := by
      intro t
      have hsq : ∀ u, u ∈ sq S (sN S - (k + 1)) t ↔ _ := fun u => sq_mem (t := t) (v := u) (hS (sN S - (k + 1)) (by omega))
      by_cases he : ∃ u, u ∈ sq S (sN S - (k + 1)) t ∧ mem u = true
      · have := wk_pos (fr := fr) _ he
        omega
      · have hn : ∀ u, u ∈ sq S (sN S - (k + 1)) t → mem u = false := by
          intro u hu
          cases hm : mem u with
          | false => rfl
          | true => exact absurd ⟨u, hu, hm⟩ he
        rw [wk_none _ hn]
        have hs : s ≠ sN S - (k + 1) := by
          intro e
          subst e
          exact he ⟨v, (hsq v).mpr h3, h4⟩
        have := ih (by omega) ⟨s, v, by omega, h2, h3, h4⟩
        show 1 ≤ 0 + py S fr mem mode k 7
        omega
    unfold py
    split
    · exact Nat.le_min.mpr ⟨hb false, hb true⟩
    · exact hb false
theorem used_or {S : Sn} (v : Nat) : ∀ (l : List Nat) (u : Nat), ((l.foldl (fun u s => u ||| 2 ^ sT S s ||| 2 ^ sL S s ||| 2 ^ sR S s) u).testBit v = true ↔ (u.testBit v = true ∨ ∃ s, s ∈ l ∧ (v = sT S s ∨ v = sL S s ∨ v = sR S s))) := by
  intro l
  induction l with
  | nil => intro u; simp
  | cons x xs ih =>
    intro u
    rw [List.foldl_cons, ih]
    simp only [Nat.testBit_or, Nat.testBit_two_pow, Bool.or_eq_true, decide_eq_true_eq, List.mem_cons]
    constructor
    · rintro ((((h | h) | h) | h) | ⟨s, h1, h2⟩)
      · exact Or.inl h
      · exact Or.inr ⟨x, Or.inl rfl, Or.inl h.symm⟩
      · exact Or.inr ⟨x, Or.inl rfl, Or.inr (Or.inl h.symm)⟩
      · exact Or.inr ⟨x, Or.inl rfl, Or.inr (Or.inr h.symm)⟩
      · exact Or.inr ⟨s, Or.inr h1, h2⟩
    · rintro (h | ⟨s, h1, h2⟩)
      · exact Or.inl (Or.inl (Or.inl (Or.inl h)))
      · rcases h1 with rfl | h1
        · rcases h2 with h | h | h
          · exact Or.inl (Or.inl (Or.inl (Or.inr h.symm)))
          · exact Or.inl (Or.inl (Or.inr h.symm))
          · exact Or.inl (Or.inr h.symm)
        · exact Or.inr ⟨s, h1, h2⟩
theorem used_iff {S : Sn} {v : Nat} : (usedS S).testBit v = true ↔ ∃ s, s < sN S ∧ (v = sT S s ∨ v = sL S s ∨ v = sR S s) := by
  unfold usedS
  rw [used_or]
  simp
theorem sub_iff {a b : Nat} : sub a b = true ↔ ∀ v, v < 7 → a.testBit v = true → b.testBit v = true := by
  unfold sub
  simp only [List.all_eq_true, List.mem_range, Bool.or_eq_true, Bool.not_eq_true']
  constructor
  · intro h v hv ha
    rcases h v hv with h | h
    · rw [h] at ha; cases ha
    · exact h
  · intro h v hv
    cases ha : a.testBit v with
    | false => exact Or.inl rfl
    | true => exact Or.inr (h v hv ha)
theorem set_pos : ∀ set, set < 128 → 0 < set → ∃ v, v < 7 ∧ set.testBit v = true := by decide +kernel
theorem cost_pos {S : Sn} (hS : SnOk S) {set : Nat} {mode : Bool} {row : List Nat} (h0 : 0 < set) (h1 : set < 128) (h2 : sub set (usedS S) = true) : 1 ≤ costRow S set mode row := by
  obtain ⟨v, hv, hb⟩ := set_pos set h1 h0
  obtain ⟨s, hs, he⟩ := used_iff.mp (sub_iff.mp h2 v hv hb)
  exact py_pos (fun i hi => (hS.2.1 i hi).2.2.2.2) (sN S) (Nat.le_refl _) ⟨s, v, by omega, hs, he, hb⟩
/-- the first of the least, as a fold finds it -/
theorem fm_some {α : Type} {f : α → Nat} : ∀ (l : List α) (q : Nat × α), q.1 = f q.2 → ∃ p : Nat × α, l.foldl (fm f) (some q) = some p ∧ p.1 = f p.2 ∧ p.1 ≤ q.1 ∧ (p.2 = q.2 ∨ p.2 ∈ l) ∧ (∀ x, x ∈ l → p.1 ≤ f x) := by
  intro l
  induction l with
  | nil => intro q h; exact ⟨q, rfl, h, Nat.le_refl _, Or.inl rfl, fun x hx => by cases hx⟩
  | cons y ys ih =>
    intro q h
    rw [List.foldl_cons]
    unfold fm
    by_cases hy : f y < q.1
    · simp only [hy, if_true]
      obtain ⟨p, p1, p2, p3, p4, p5⟩ := ih (f y, y) rfl
      refine ⟨p, p1, p2, by simp at p3; omega, ?_, ?_⟩
      · rcases p4 with h | h
        · exact Or.inr (by rw [h]; exact List.mem_cons_self)
        · exact Or.inr (List.mem_cons_of_mem _ h)
      · intro x hx
        rcases List.mem_cons.mp hx with rfl | hx
        · exact p3
        · exact p5 x hx
    · simp only [hy, if_false]
      obtain ⟨p, p1, p2, p3, p4, p5⟩ := ih q h
      refine ⟨p, p1, p2, p3, ?_, ?_⟩
      · rcases p4 with h | h
        · exact Or.inl h
        · exact Or.inr (List.mem_cons_of_mem _ h)
      · intro x hx
        rcases List.mem_cons.mp hx with rfl | hx
        · omega
        · exact p5 x hx
theorem fm_none {α : Type} {f : α → Nat} {l : List α} (h : l ≠ []) : ∃ p : Nat × α, l.foldl (fm f) none = some p ∧ p.1 = f p.2 ∧ p.2 ∈ l ∧ (∀ x, x ∈ l → p.1 ≤ f x) := by
  cases l with
  | nil => exact absurd rfl h
  | cons y ys =>
    rw [List.foldl_cons]
    obtain ⟨p, p1, p2, p3, p4, p5⟩ := fm_some (f := f) ys (f y, y) rfl
    refine ⟨p, p1, p2, ?_, ?_⟩
    · rcases p4 with h | h
      · rw [h]; exact List.mem_cons_self
      · exact List.mem_cons_of_mem _ h
    · intro x hx
      rcases List.mem_cons.mp hx with rfl | hx
      · exact p3
      · exact p5 x hx
theorem perms_ne : ∀ n, n < 8 → perms n ≠ [] := by decide +kernel
theorem mems_len (set : Nat) : (mems set).length < 8 := by
  unfold mems
  have := List.length_filter_le (fun v => set.testBit v) (List.range 7)
  simp at this
  omega
theorem opt_spec (S : Sn) (set : Nat) (mode : Bool) : (opt S set mode).1 = costRow S set mode (opt S set mode).2 ∧ (opt S set mode).2 ∈ perms (mems set).length ∧ ∀ row, row ∈ perms (mems set).length → (opt S set mode).1 ≤ costRow S set mode row := by
  obtain ⟨p, p1, p2, p3, p4⟩ := fm_none (f := costRow S set mode) (perms_ne _ (mems_len set))
  unfold opt
  rw [p1]
  exact ⟨p2, p3, p4⟩
theorem opt_pos {S : Sn} (hS : SnOk S) (set : Nat) (mode : Bool) (h0 : 0 < set) (h1 : set < 128) (h2 : sub set (usedS S) = true) : 1 ≤ (opt S set mode).1 := by
  rw [(opt_spec S set mode).1]
  exact cost_pos hS h0 h1 h2
theorem pg_ok {S : Sn} (h : SnOk S) : SnOk (pg S) := ⟨h.1, h.2.1, h.2.2.1, h.2.2.2.1, fun _ _ => by show 0 < 7; decide⟩
