-- step
theorem tg_lt {S : Sn} {fr : Nat → Nat → Nat} {mem : Nat → Bool} {mode : Bool} (hn : sN S ≤ 10) : ∀ k a, k ≤ sN S → tg S fr mem mode k a < 1024 := by
  intro k
  induction k with
  | zero => intro a _; show 0 < 1024; decide
  | succ k ih =>
    intro a hk
    rw [tg_s]
    split
    · exact ih _ (by omega)
    · refine Nat.or_lt_two_pow (n := 10) ?_ (ih _ (by omega))
      exact Nat.pow_lt_pow_right (by decide) (by omega)
theorem turnP_lt {S : Sn} (hS : SnOk S) (r : Nat) (mode : Bool) : turnP S r mode < 1024 := by
  have h : ∀ set, turnB S set mode < 1024 := fun set => tg_lt hS.1 _ _ (Nat.le_refl _)
  exact Nat.or_lt_two_pow (n := 10) (Nat.or_lt_two_pow (n := 10) (h _) (h _)) (h _)
theorem cellP_lt {S : Sn} {r v : Nat} {mode : Bool} (hr1 : 1 ≤ r) (hr3 : r ≤ 3) (hv : v < 7) (hb : (usedS S).testBit v = true) : cellP S r mode v < 7 := opt_cell hv ((blkOf_iff hr1 hr3).mpr ⟨hv, hb, rfl⟩)
theorem sl_used {S : Sn} (hS : SnOk S) {t v : Nat} (h : v ∈ sl S t (sN S)) : (usedS S).testBit v = true := by
  rw [← lor_used hS t]
  unfold lor
  rw [lor_bit]
  simp [h]
/-- the last place before k whose variable is of register x -/
def bf (l : List Nat) (rg : Nat → Nat) (x : Nat) : Nat → Option Nat
  | 0 => none
  | k + 1 => if rg (l.getD k 0) = x then some k else bf l rg x k
theorem bf_lt {l : List Nat} {rg : Nat → Nat} {x : Nat} : ∀ k j, bf l rg x k = some j → j < k := by
  intro k
  induction k with
  | zero => intro j h; cases h
  | succ k ih =>
    intro j h
    unfold bf at h
    split at h
    · cases h; omega
    · have := ih j h; omega
theorem m1_lt : (nI 0 - 1 : Int32) < 0 := by decide
theorem p_m1 (k : Nat) : nI k + (-1 : Int32) = nI k - 1 := by rw [Int32.sub_eq_add_neg]
theorem befX_lp {st : St} {l : List Nat} {rg : Nat → Nat} {x a : Nat} (hl : l.length ≤ 30) (h7 : ∀ v, v ∈ l → v < 7) (hln : ln a = 7) (h24 : Ln l (st 24)) (hrg : ∀ v, v ∈ l → st a v = nI (rg v) ∧ rg v < 7) (hx : x < 7) (K : Int32 → Option Int32) : ∀ (k m : Nat), k ≤ l.length → k < m → lp_X4_before_14 (nI x) a st K m (nI k - 1) = match bf l rg x k with
    | none => some (-1)
    | some j => K (nI j) := by
  intro k
  induction k with
  | zero =>
    intro m _ hm
    obtain ⟨m, rfl⟩ : ∃ q, m = q + 1 := ⟨m - 1, by omega⟩
    change lpB_X4_before_14 (nI x) a st K (lp_X4_before_14 (nI x) a st K m) (nI 0 - 1) = _
    unfold lpB_X4_before_14
    rw [if_pos m1_lt]
    rfl
  | succ k ih =>
    intro m hk hm
    obtain ⟨m, rfl⟩ : ∃ q, m = q + 1 := ⟨m - 1, by omega⟩
    change lpB_X4_before_14 (nI x) a st K (lp_X4_before_14 (nI x) a st K m) (nI (k + 1) - 1) = _
    unfold lpB_X4_before_14
    have hmem := getD_mem (l := l) (i := k) (by omega)
    have hv := h7 _ hmem
    obtain ⟨e1, e2⟩ := hrg _ hmem
    rw [nI_pred, if_neg (nI_pos (by omega)), ck_in (by omega) (by decide), nI_clamp (by omega), h24 k (by omega), hln, ck_in hv (by decide), nI_clamp (by omega), e1]
    unfold bf
    by_cases c : rg (l.getD k 0) = x
    · rw [if_pos c, if_pos (by rw [c])]
    · rw [if_neg c, if_neg (by rw [nI_eq (by omega) (by omega)]; exact c), lt_eq, p_m1]
      exact ih m (by omega) (by omega)
theorem befX {st : St} {l : List Nat} {rg : Nat → Nat} {a i N : Nat} (hN : 31 ≤ N) (hl : l.length ≤ 30) (h7 : ∀ v, v ∈ l → v < 7) (hkd : kd a = 9) (hln : ln a = 7) (h24 : Ln l (st 24)) (hrg : ∀ v, v ∈ l → st a v = nI (rg v) ∧ rg v < 7) (hi : i < l.length) : F_X4_before N (nI i) a st = some (match bf l rg (rg (l.getD i 0)) i with
    | none => -1
    | some j => nI (l.getD j 0)) := by
  have hmem := getD_mem (l := l) (i := i) hi
  have hv := h7 _ hmem
  obtain ⟨e1, e2⟩ := hrg _ hmem
  unfold F_X4_before
  rw [ck_d hkd, ck_in (by omega) (by decide), nI_clamp (by omega), h24 i hi, hln, ck_in hv (by decide), nI_clamp (by omega), e1, lt_eq, lt_eq, befX_lp hl h7 hln h24 hrg e2 _ i N (by omega) (by omega)]
  cases hb : bf l rg (rg (l.getD i 0)) i with
  | none => rfl
  | some j =>
    have hj := bf_lt _ _ hb
    show ck (inb (nI j) 30) (some (st 24 (nI j).toNatClampNeg)) = _
    rw [ck_in (by omega) (by decide), nI_clamp (by omega), h24 j (by omega)]
theorem befM_lp {st : St} {l : List Nat} {rg : Nat → Nat} {i : Nat} (hl : l.length ≤ 30) (h7 : ∀ v, v ∈ l → v < 7) (h79 : Ln l (st 79)) (hrg : ∀ v, v ∈ l → st 86 v = nI (rg v) ∧ rg v < 7) (hi : i < l.length) (K : Int32 → Option (Int32 × St)) : ∀ (k m : Nat), k ≤ l.length → k < m → lp_X8_step_69 (nI i) st K m (nI k - 1) = match bf l rg (rg (l.getD i 0)) k with
    | none => K (-1)
    | some j => K (nI j) := by
  have hmi := getD_mem (l := l) (i := i) hi
  have hvi := h7 _ hmi
  obtain ⟨f1, f2⟩ := hrg _ hmi
  intro k
  induction k with
  | zero =>
    intro m _ hm
    obtain ⟨m, rfl⟩ : ∃ q, m = q + 1 := ⟨m - 1, by omega⟩
    change lpB_X8_step_69 (nI i) st K (lp_X8_step_69 (nI i) st K m) (nI 0 - 1) = _
    unfold lpB_X8_step_69
    rw [if_pos m1_lt]
    rfl
  | succ k ih =>
    intro m hk hm
    obtain ⟨m, rfl⟩ : ∃ q, m = q + 1 := ⟨m - 1, by omega⟩
    change lpB_X8_step_69 (nI i) st K (lp_X8_step_69 (nI i) st K m) (nI (k + 1) - 1) = _
    unfold lpB_X8_step_69
    have hmem := getD_mem (l := l) (i := k) (by omega)
    have hv := h7 _ hmem
    obtain ⟨e1, e2⟩ := hrg _ hmem
    rw [nI_pred, if_neg (nI_pos (by omega)), ck_in (i := k) (by omega) (by decide), nI_clamp (n := k) (by omega), h79 k (by omega), ck_in (i := l.getD k 0) hv (by decide), nI_clamp (n := l.getD k 0) (by omega), ck_in (i := i) (by omega) (by decide), nI_clamp (n := i) (by omega), h79 i hi, ck_in (i := l.getD i 0) hvi (by decide), nI_clamp (n := l.getD i 0) (by omega), e1, f1]
    unfold bf
    by_cases c : rg (l.getD k 0) = rg (l.getD i 0)
    · rw [if_pos c, if_pos (by rw [c])]
    · rw [if_neg c, if_neg (by rw [nI_eq (by omega) (by omega)]; exact c), lt_eq, p_m1]
      exact ih m (by omega) (by omega)
theorem what_end {s : St} {w : Nat} (hw1 : 0 < w) (hw : w ≤ 2) (f : Bool) (X : Option (Int32 × St)) (d : Int32) (hX : f = false → X = some (d, s)) : (if nI w = (1 : Int32) then (if bi f = 0 then some ((0 : Int32), s) else some ((1 : Int32), s)) else (if bi f = 0 then X else some ((0 : Int32), s))) = some (if w = 1 then bi f else if f then 0 else d, s) := by
  rcases (show w = 1 ∨ w = 2 by omega) with rfl | rfl
  · rw [if_pos (by rfl)]
    cases f <;> rfl
  · rw [if_neg (by decide)]
    cases f with
    | false => rw [if_pos (by rfl), hX rfl]; rfl
    | true => rw [if_neg (by decide)]; rfl
/-- the answer of step at a place that is there -/
def stepA (S : Sn) (r : Nat) (b : Bool) (l : List Nat) (i w : Nat) : Int32 := if w = 0 then nI (l.getD i 0) else match bf l (regOf S r b) (regOf S r b (l.getD i 0)) i with
  | none => if w = 1 then 1 else 0
  | some j => if w = 1 then bi (far (sF S) (cellP S r b (l.getD j 0)) (cellP S r b (l.getD i 0))) else if far (sF S) (cellP S r b (l.getD j 0)) (cellP S r b (l.getD i 0)) then 0 else nI (cellP S r b (l.getD i 0)) - nI (cellP S r b (l.getD j 0))
set_option maxHeartbeats 1000000 in
theorem ok_step {st : St} {N : Nat} (hN : 6000 ≤ N) (hI : Inv st) (v1 v2 v3 v4 : Int32) : Ok (F_X7_step N v1 v2 v3 v4) (F_X8_step N v1 v2 v3 v4) st := by
  have hI0 := hI
  obtain ⟨S, kp, SI, hI⟩ := hI
  have hS := hI.1
  have hn10 := hS.1
  rcases asked_c v1 v2 with ⟨r, b, r1, r3, rfl, rfl, h1, h2⟩ | ⟨h1, h2⟩
  · rcases what_c v4 2 (by decide) with ⟨w, hw, rfl, w1, w2, w3⟩ | ⟨w1, w3⟩
    · obtain ⟨s0, z1, z2, z3⟩ := planForX (N := N) (mode := b) (by omega) hI r1 r3
      have ht := turnP_lt hS r b
      obtain ⟨sa, a1, a2, a3⟩ := lookX (N := N) (t := turnP S r b) (by omega) hS (by omega) z2.2.1
      have hIa : InvS S kp SI sa := z2.look (by rw [a3 70 (by decide) (by decide)]) (fun k hk => a3 k (by rintro rfl; exact hk (by decide)) (by rintro rfl; exact hk (by decide)))
      obtain ⟨sb, b1, b2, b3⟩ := layPlanM (N := N) (mode := b) hN hIa r1 r3
      obtain ⟨g, d1, d2⟩ := lineM (N := N) (t := turnP S r b) (by omega) hS b2.2.2.1 (by omega)
      have hlen := sl_len S (turnP S r b) (sN S)
      have h7 : ∀ v, v ∈ sl S (turnP S r b) (sN S) → v < 7 := fun v hv => sl_lt hS hv
      have hus : ∀ v, v ∈ sl S (turnP S r b) (sN S) → (usedS S).testBit v = true := fun v hv => sl_used hS hv
      generalize hle : sl S (turnP S r b) (sN S) = l at *
      obtain ⟨k1, k2, k3, k4, k5⟩ := plI_kd (b := b) r1 r3
      obtain ⟨pp, hp6, hpl⟩ := plI_lt (b := b) r1 r3
      have hPa : ∀ v, v ∈ l → (sa (plI r b + 1) v = nI (regOf S r b v) ∧ regOf S r b v < 7) ∧ sa (plI r b + 2) v = nI (cellP S r b v) ∧ cellP S r b v < 7 := by
        intro v hv
        have q := z3.2.2.2 v (h7 v hv) (hus v hv)
        rw [a3 (plI r b + 1) (by omega) (by omega), a3 (plI r b + 2) (by omega) (by omega)]
        have q2 := regOf_lt (mode := b) r1 r3 (h7 v hv) (hus v hv)
        exact ⟨⟨q.1, by omega⟩, q.2, cellP_lt r1 r3 (h7 v hv) (hus v hv)⟩
      have hPb : ∀ v, v ∈ l → (upr sb 79 g 86 v = nI (regOf S r b v) ∧ regOf S r b v < 7) ∧ upr sb 79 g 80 v = nI (cellP S r b v) := by
        intro v hv
        have q := b3.2.2.2 v (h7 v hv) (hus v hv)
        simp only [upr_app, Nat.reduceEqDiff, if_false]
        exact ⟨⟨q.1, (hPa v hv).1.2⟩, q.2⟩
      have hmr : ∀ d, d < 7 → upr sb 79 g 77 d = bi ((sF S).testBit d) := by
        intro d hd
        simp only [upr_app, Nat.reduceEqDiff, if_false]
        exact b2.2.2.1.2.2.2 d hd
      have h79 : Ln l (upr sb 79 g 79) := by rw [upr_app, if_pos rfl]; exact d2
      rcases hasL a2 (by omega) v3 with ⟨i, hi, rfl, q1⟩ | ⟨q2, q1⟩
      · refine ⟨stepA S r b l i w, sa, upr sb 79 g, ?_, ?_, S, kp, SI, b2.line⟩
        · have hmi := getD_mem (l := l) (i := i) hi
          have hvi := h7 _ hmi
          obtain ⟨-, u3, u4⟩ := hPa _ hmi
          unfold F_X7_step
          rw [h1, bs_s, if_neg e10, if_neg w1, if_pos (by rw [L2]; exact w2), z1, bd_s, ck_d k1, z3.2.2.1, a1, bs_s, q1, bs_s, if_neg e10, ck_in (by omega) (by decide), nI_clamp (by omega), a2.2 i hi, lt_eq]
          unfold stepA
          by_cases hw0 : w = 0
          · subst hw0
            rw [if_pos (by rfl), if_pos rfl]
          · rw [if_neg (nI_ne0 (by omega) (by omega)), if_neg hw0, befX (rg := regOf S r b) (by omega) (by omega) h7 k2 k3 a2.2 (fun v hv => (hPa v hv).1) hi, bs_s]
            cases hb : bf l (regOf S r b) (regOf S r b (l.getD i 0)) i with
            | none =>
              simp only [lt_eq]
              rw [if_pos (by decide)]
              exact what_end (by omega) hw true _ 0 (fun h => by cases h)
            | some j =>
              have hj := bf_lt _ _ hb
              have hmj := getD_mem (l := l) (i := j) (by omega)
              have hvj := h7 _ hmj
              obtain ⟨-, y3, y4⟩ := hPa _ hmj
              simp only [lt_eq]
              rw [if_neg (nI_pos (by omega)), ck_in (i := l.getD j 0) hvj (by decide), ck_in (i := l.getD i 0) hvi (by decide), nI_clamp (n := l.getD j 0) (by omega), nI_clamp (n := l.getD i 0) (by omega), y3, u3, isFarX hS.2.2.1 hIa.2.1.2.2.1 y4 u4, bs_s]
              cases hf : far (sF S) (cellP S r b (l.getD j 0)) (cellP S r b (l.getD i 0)) with
              | false =>
                rw [if_pos (by rfl)]
                exact what_end (by omega) hw false _ (nI (cellP S r b (l.getD i 0)) - nI (cellP S r b (l.getD j 0))) (fun _ => by rw [ck_in (i := l.getD i 0) hvi (by decide), ck_in (i := l.getD j 0) hvj (by decide)])
              | true =>
                rw [if_neg (by decide)]
                exact what_end (by omega) hw true _ 0 (fun h => by cases h)
        · have hmi := getD_mem (l := l) (i := i) hi
          have hvi := h7 _ hmi
          obtain ⟨-, u3⟩ := hPb _ hmi
          have u4 := (hPa _ hmi).2.2
          unfold F_X8_step
          rw [h2, bs_s, if_neg e10, L2, w3, bs_s, if_neg e10, b1, bs_s, b3.2.1, d1, bd_s, lt_eq, (in_len (by omega) (nI i)).1 ⟨i, hi, rfl⟩, bs_s, if_neg e10]
          unfold stepA
          by_cases hw0 : w = 0
          · subst hw0
            rw [if_pos (by rfl), if_pos rfl, ck_in (by omega) (by decide), nI_clamp (by omega), h79 i hi]
          · rw [if_neg (nI_ne0 (by omega) (by omega)), if_neg hw0, lt_eq, befM_lp (rg := regOf S r b) (by omega) h7 h79 (fun v hv => (hPb v hv).1) hi _ i N (by omega) (by omega)]
            cases hb : bf l (regOf S r b) (regOf S r b (l.getD i 0)) i with
            | none =>
              simp only [lt_eq]
              rw [if_pos (by decide)]
              exact what_end (by omega) hw true _ 0 (fun h => by cases h)
            | some j =>
              have hj := bf_lt _ _ hb
              have hmj := getD_mem (l := l) (i := j) (by omega)
              have hvj := h7 _ hmj
              obtain ⟨-, y3⟩ := hPb _ hmj
              have y4 := (hPa _ hmj).2.2
              simp only [lt_eq]
              rw [if_neg (nI_pos (by omega)), ck_in (i := j) (by omega) (by decide), nI_clamp (n := j) (by omega), h79 j (by omega), ck_in (i := l.getD j 0) hvj (by decide), ck_in (i := i) (by omega) (by decide), nI_clamp (n := i) (by omega), h79 i hi, ck_in (i := l.getD i 0) hvi (by decide), nI_clamp (n := l.getD j 0) (by omega), nI_clamp (n := l.getD i 0) (by omega), y3, u3, isFarM hmr y4 u4, bs_s]
              cases hf : far (sF S) (cellP S r b (l.getD j 0)) (cellP S r b (l.getD i 0)) with
              | false =>
                rw [if_pos (by rfl)]
                exact what_end (by omega) hw false _ (nI (cellP S r b (l.getD i 0)) - nI (cellP S r b (l.getD j 0))) (fun _ => by rw [ck_in (i := i) (by omega) (by decide), ck_in (i := l.getD i 0) hvi (by decide), ck_in (i := j) (by omega) (by decide), ck_in (i := l.getD j 0) hvj (by decide)])
              | true =>
                rw [if_neg (by decide)]
                exact what_end (by omega) hw true _ 0 (fun h => by cases h)
      · refine ⟨-6, sa, upr sb 79 g, ?_, ?_, S, kp, SI, b2.line⟩
        · unfold F_X7_step
          rw [h1, bs_s, if_neg e10, if_neg w1, if_pos (by rw [L2]; exact w2), z1, bd_s, ck_d k1, z3.2.2.1, a1, bs_s, q1, bs_s, if_pos (by rfl)]
        · unfold F_X8_step
          rw [h2, bs_s, if_neg e10, L2, w3, bs_s, if_neg e10, b1, bs_s, b3.2.1, d1, bd_s, lt_eq, (in_len (by omega) v3).2 q2, bs_s, if_pos (by rfl)]
    · refine Ok.same hI0 (-2) ?_ ?_
      · unfold F_X7_step
        rw [h1, bs_s, if_neg e10]
        by_cases c : v4 < 0
        · rw [if_pos c]
        · rw [if_neg c, if_neg (by rw [L2]; exact w1.resolve_left c)]
      · unfold F_X8_step
        rw [h2, bs_s, if_neg e10, L2, w3, bs_s, if_pos (by rfl)]
  · refine Ok.same hI0 (-2) ?_ ?_
    · unfold F_X7_step
      rw [h1, bs_s, if_pos (by rfl)]
    · unfold F_X8_step
      rw [h2, bs_s, if_pos (by rfl)]
