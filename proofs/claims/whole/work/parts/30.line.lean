-- the sight
def sl (S : Sn) (t : Nat) : Nat → List Nat
  | 0 => []
  | k + 1 => sl S t k ++ sq S k (t.testBit k)
def Ln (l : List Nat) (g : Nat → Int32) : Prop := ∀ i, i < l.length → g i = nI (l.getD i 0)
theorem Ln.add {l : List Nat} {g : Nat → Int32} {v : Nat} (h : Ln l g) : Ln (l ++ [v]) (upd g l.length (nI v)) := by
  intro i hi
  rw [List.length_append, List.length_singleton] at hi
  rw [upd_app]
  by_cases e : i = l.length
  · rw [if_pos e, e]
    simp
  · rw [if_neg e, h i (by omega)]
    congr 1
    simp [List.getElem?_append_left (show i < l.length by omega)]
theorem sq_len (S : Sn) (s : Nat) (t : Bool) : (sq S s t).length ≤ 3 := by
  unfold sq
  split
  · simp
  · split <;> simp
theorem sl_len (S : Sn) (t : Nat) : ∀ k, (sl S t k).length ≤ 3 * k := by
  intro k
  induction k with
  | zero => simp [sl]
  | succ k ih =>
    unfold sl
    rw [List.length_append]
    have := sq_len S k (t.testBit k)
    omega
def LR (l : List Nat) (st : St) : Prop := st 23 1 = nI l.length ∧ Ln l (st 24)
theorem addX {l : List Nat} {st : St} {v : Nat} (h : LR l st) (hl : l.length < 30) : ∃ st' : St, F_X4_add (nI v) st = some st' ∧ LR (l ++ [v]) st' ∧ ∀ k, k ≠ 23 → k ≠ 24 → st' k = st k := by
  refine ⟨up (up st 24 l.length (nI v)) 23 1 (nI (l.length + 1)), ?_, ⟨?_, ?_⟩, ?_⟩
  · unfold F_X4_add
    simp only [h.1, ck_in hl (show (30 : Nat) < 2 ^ 31 by decide), lt_eq, nI_clamp (show l.length < 2 ^ 31 by omega), up_app, Nat.reduceEqDiff, reduceIte, nI_1]
  · simp [up_app]
  · rw [show up (up st 24 l.length (nI v)) 23 1 (nI (l.length + 1)) 24 = upd (st 24) l.length (nI v) by simp [up_row]]
    exact h.2.add
  · intro k h1 h2
    simp only [up_row, if_neg h1, if_neg h2]
theorem look_lp {S : Sn} (hS : SnOk S) {t : Nat} (ht : t < 2 ^ 31) : ∀ (m s : Nat) (st : St), s ≤ sN S → sN S - s < m → ClsRep 1 S st → LR (sl S t s) st → ∃ st' : St, lp_X4_look_7 (nI t) m (nI s) st = some st' ∧ LR (sl S t (sN S)) st' ∧ ∀ k, k ≠ 23 → k ≠ 24 → st' k = st k := by
  intro m
  induction m with
  | zero => intro s st h1 h2; omega
  | succ m ih =>
    intro s st h1 h2 hc hl
    have hn10 := hS.1
    change ∃ st' : St, lpB_X4_look_7 (nI t) (lp_X4_look_7 (nI t) m) (nI s) st = some st' ∧ _
    unfold lpB_X4_look_7
    rw [hc.1]
    by_cases hs : s = sN S
    · rw [hs, if_pos (nI_le (Nat.le_refl _) (by omega))]
      exact ⟨st, rfl, by rw [← hs]; exact hl, fun _ _ _ => rfl⟩
    · have hsn : s < sN S := by omega
      have hs10 : s < 10 := by omega
      have hlen := sl_len S t s
      rw [if_neg (nI_ge hsn (by omega))]
      obtain ⟨k1, k2, k3, k4⟩ := hc.2.1 s hsn
      simp only [Nat.reduceAdd] at k1 k2 k3 k4
      have hck : ∀ (x : Option St), ck (inb (nI s) 10) x = x := fun x => ck_in hs10 (by decide) x
      have es : (nI s).toNatClampNeg = s := nI_clamp (by omega)
      have hbit : (nI t >>> (nI s &&& 31)) &&& (1 : Int32) = bi (t.testBit s) := bit_s ht (by omega)
      -- three added, or two
      have two : ∀ (a b : Nat), sq S s (t.testBit s) = [a, b] → ∃ sa sb : St, F_X4_add (nI a) st = some sa ∧ sa 2 = st 2 ∧ sa 3 = st 3 ∧ sa 4 = st 4 ∧ sa 5 = st 5 ∧ F_X4_add (nI b) sa = some sb ∧ ∃ st' : St, lp_X4_look_7 (nI t) m (nI (s + 1)) sb = some st' ∧ LR (sl S t (sN S)) st' ∧ ∀ k, k ≠ 23 → k ≠ 24 → st' k = st k := by
        intro a b hab
        obtain ⟨sa, x1, x2, x3⟩ := addX (v := a) hl (by omega)
        obtain ⟨sb, y1, y2, y3⟩ := addX (v := b) x2 (by rw [List.length_append, List.length_singleton]; omega)
        obtain ⟨st', z1, z2, z3⟩ := ih (s + 1) sb (by omega) (by omega) (hc.kept (by rw [y3 1 (by decide) (by decide), x3 1 (by decide) (by decide)]) (by rw [y3 _ (by decide) (by decide), x3 _ (by decide) (by decide)]) (by rw [y3 _ (by decide) (by decide), x3 _ (by decide) (by decide)]) (by rw [y3 _ (by decide) (by decide), x3 _ (by decide) (by decide)]) (by rw [y3 _ (by decide) (by decide), x3 _ (by decide) (by decide)]) (by rw [y3 _ (by decide) (by decide), x3 _ (by decide) (by decide)]) (by rw [y3 _ (by decide) (by decide), x3 _ (by decide) (by decide)])) (by
          have : sl S t (s + 1) = sl S t s ++ [a] ++ [b] := by
            show sl S t s ++ sq S s (t.testBit s) = _
            rw [hab]; simp
          rw [this]; exact y2)
        exact ⟨sa, sb, x1, x3 2 (by decide) (by decide), x3 3 (by decide) (by decide), x3 4 (by decide) (by decide), x3 5 (by decide) (by decide), y1, st', z1, z2, fun k a b => by rw [z3 k a b, y3 k a b, x3 k a b]⟩
      have three : ∀ (a b c : Nat), sq S s (t.testBit s) = [a, b, c] → ∃ sa sb sc : St, F_X4_add (nI a) st = some sa ∧ sa 2 = st 2 ∧ sa 4 = st 4 ∧ sa 5 = st 5 ∧ F_X4_add (nI b) sa = some sb ∧ sb 3 = st 3 ∧ F_X4_add (nI c) sb = some sc ∧ ∃ st' : St, lp_X4_look_7 (nI t) m (nI (s + 1)) sc = some st' ∧ LR (sl S t (sN S)) st' ∧ ∀ k, k ≠ 23 → k ≠ 24 → st' k = st k := by
        intro a b c hab
        obtain ⟨sa, x1, x2, x3⟩ := addX (v := a) hl (by omega)
        obtain ⟨sb, y1, y2, y3⟩ := addX (v := b) x2 (by rw [List.length_append, List.length_singleton]; omega)
        obtain ⟨sc, w1, w2, w3⟩ := addX (v := c) y2 (by rw [List.length_append, List.length_append, List.length_singleton, List.length_singleton]; omega)
        have hk : ∀ k, k ≠ 23 → k ≠ 24 → sc k = st k := fun k a b => by rw [w3 k a b, y3 k a b, x3 k a b]
        obtain ⟨st', z1, z2, z3⟩ := ih (s + 1) sc (by omega) (by omega) (hc.kept (hk _ (by decide) (by decide)) (hk _ (by decide) (by decide)) (hk _ (by decide) (by decide)) (hk _ (by decide) (by decide)) (hk _ (by decide) (by decide)) (hk _ (by decide) (by decide)) (hk _ (by decide) (by decide))) (by
          have : sl S t (s + 1) = sl S t s ++ [a] ++ [b] ++ [c] := by
            show sl S t s ++ sq S s (t.testBit s) = _
            rw [hab]; simp
          rw [this]; exact w2)
        exact ⟨sa, sb, sc, x1, x3 2 (by decide) (by decide), x3 4 (by decide) (by decide), x3 5 (by decide) (by decide), y1, by rw [y3 3 (by decide) (by decide), x3 3 (by decide) (by decide)], w1, st', z1, z2, fun k a b => by rw [z3 k a b, hk k a b]⟩
      by_cases hk : sK S s = 0
      · have hz : nI (sK S s) = 0 := by rw [hk]; rfl
        have hR := (hS.2.1 s hsn).2.2.2.2 hk
        obtain ⟨sa, sb, x1, x2, x3, x4, x5, x6, st', z1, z2, z3⟩ := two (sL S s) (sT S s) (by unfold sq; rw [if_pos hk])
        refine ⟨st', ?_, z2, z3⟩
        cases hb : t.testBit s with
        | false =>
          rw [hb] at hbit
          simp only [hbit, lt_eq, if_pos (show bi false = 0 from rfl), reduceIte, hck, es, k3, x1, bs_s, x2, k1, if_pos hz, x3, k2, x6, nI_1, z1]
        | true =>
          rw [hb] at hbit
          simp only [hbit, lt_eq, if_neg (show ¬ bi true = 0 by decide), if_neg e10, hck, es, k4, hR, x1, bs_s, x2, k1, if_pos hz, x3, k2, x6, nI_1, z1]
      · have hz : ¬ nI (sK S s) = 0 := by rw [L0, nI_eq (by have := (hS.2.1 s hsn).1; omega) (by decide)]; exact hk
        cases hb : t.testBit s with
        | false =>
          rw [hb] at hbit
          obtain ⟨sa, sb, sc, x1, x2, x3, x4, x5, x6, x7, st', z1, z2, z3⟩ := three (sL S s) (sR S s) (sT S s) (by unfold sq; rw [if_neg hk, hb]; rfl)
          refine ⟨st', ?_, z2, z3⟩
          simp only [hbit, lt_eq, if_pos (show bi false = 0 from rfl), reduceIte, hck, es, k3, x1, bs_s, x2, k1, if_neg hz, x4, k4, x5, x6, k2, x7, nI_1, z1]
        | true =>
          rw [hb] at hbit
          obtain ⟨sa, sb, sc, x1, x2, x3, x4, x5, x6, x7, st', z1, z2, z3⟩ := three (sR S s) (sL S s) (sT S s) (by unfold sq; rw [if_neg hk, hb]; rfl)
          refine ⟨st', ?_, z2, z3⟩
          simp only [hbit, lt_eq, if_neg (show ¬ bi true = 0 by decide), if_neg e10, hck, es, k4, x1, bs_s, x2, k1, if_neg hz, x3, k3, x5, x6, k2, x7, nI_1, z1]
theorem lookX {S : Sn} {st : St} {t N : Nat} (hN : 31 ≤ N) (hS : SnOk S) (ht : t < 2 ^ 31) (hc : ClsRep 1 S st) : ∃ st' : St, F_X4_look N (nI t) st = some st' ∧ LR (sl S t (sN S)) st' ∧ ∀ k, k ≠ 23 → k ≠ 24 → st' k = st k := by
  obtain ⟨st', z1, z2, z3⟩ := look_lp hS ht N 0 (up st 23 1 0) (by omega) (by have := hS.1; omega) (hc.kept (by simp [up_row]) (by simp [up_row]) (by simp [up_row]) (by simp [up_row]) (by simp [up_row]) (by simp [up_row]) (by simp [up_row])) ⟨by simp [up_app, sl]; rfl, fun i hi => by simp [sl] at hi⟩
  refine ⟨st', ?_, z2, fun k a b => by rw [z3 k a b]; simp only [up_row, if_neg a]⟩
  unfold F_X4_look
  rw [lt_eq, lt_eq, ← nI0]
  exact z1
-- the reference's line
theorem hasM {n i : Nat} (hn : n < 2 ^ 31) (hi : i < 32) : F_X8_has (nI n) (nI i) = some (bi (n.testBit i)) := by
  unfold F_X8_has
  rw [bit_s hn hi]
  cases n.testBit i <;> rfl
theorem seenM {S : Sn} {st : St} {s : Nat} (hS : SnOk S) (hm : ModRep S st) (hs : s < sN S) (t : Bool) : F_X8_seen (nI s) 0 (bi t) st = some (nI ((sq S s t).getD 0 0)) ∧ F_X8_seen (nI s) 1 (bi t) st = some (if sK S s = 0 then -6 else nI ((sq S s t).getD 1 0)) ∧ F_X8_seen (nI s) 2 (bi t) st = some (nI (sT S s)) := by
  have hn10 := hS.1
  obtain ⟨m1, m2, m3, m4⟩ := hm.2.1 s hs
  have hck : ∀ (x : Option Int32), ck (inb (nI s) 10) x = x := fun x => ck_in (by omega) (by decide) x
  have es : (nI s).toNatClampNeg = s := nI_clamp (by omega)
  have h4 := (hS.2.1 s hs).1
  refine ⟨?_, ?_, ?_⟩
  · unfold F_X8_seen sq
    rw [if_neg (by decide)]
    simp only [hck, es, m1, m3, m4, lt_eq, reduceIte]
    by_cases hk : sK S s = 0
    · rw [if_pos (by rw [hk]; rfl), if_pos hk]; rfl
    · rw [if_neg (by rw [L0, nI_eq (by omega) (by decide)]; exact hk), if_neg hk]
      cases t with
      | false => rw [if_neg (by decide)]; rfl
      | true => rw [if_pos (by rfl)]; rfl
  · unfold F_X8_seen sq
    rw [if_neg (by decide)]
    simp only [hck, es, m1, m3, m4, lt_eq, if_neg e10]
    by_cases hk : sK S s = 0
    · rw [if_pos (by rw [hk]; rfl), if_pos hk]
    · rw [if_neg (by rw [L0, nI_eq (by omega) (by decide)]; exact hk), if_neg hk]
      cases t with
      | false => rw [if_pos (by rfl), if_neg hk]; rfl
      | true => rw [if_neg (by decide), if_neg hk]; rfl
  · unfold F_X8_seen
    rw [if_pos (by rfl)]
    simp only [hck, es, m2]
theorem neg6 : (-6 : Int32) < 0 := by decide
theorem line_step {S : Sn} {st : St} {s p t m : Nat} {l : List Nat} {g : Nat → Int32} (hS : SnOk S) (hm : ModRep S st) (hs : s < sN S) (hp : p < 3) (ht : t < 2 ^ 31) (hl : l.length < 30) : (∀ v, F_X8_seen (nI s) (nI p) (bi (t.testBit s)) (upr st 79 g) = some (nI v) → v < 7 → lp_X8_layLine_4 (nI t) (m + 1) (nI l.length) (nI (3 * s + p)) (upr st 79 g) = lp_X8_layLine_4 (nI t) m (nI (l.length + 1)) (nI (3 * s + p + 1)) (upr st 79 (upd g l.length (nI v)))) ∧ (F_X8_seen (nI s) (nI p) (bi (t.testBit s)) (upr st 79 g) = some (-6) → lp_X8_layLine_4 (nI t) (m + 1) (nI l.length) (nI (3 * s + p)) (upr st 79 g) = lp_X8_layLine_4 (nI t) m (nI l.length) (nI (3 * s + p + 1)) (upr st 79 g)) := by
  have hn10 := hS.1
  have h70 : (upr st 79 g) 70 0 = nI (sN S) := by simp only [upr_app, Nat.reduceEqDiff, reduceIte]; exact hm.1
  have e1 : (3 : Int32) * nI (sN S) = nI (3 * sN S) := by rw [L3, pk_mul]
  have e2 : nI (3 * s + p) / (3 : Int32) = nI s := by rw [L3, pk_div (by omega) (by decide) (by decide)]; congr 1; omega
  have e3 : nI (3 * s + p) - nI s * (3 : Int32) = nI p := by rw [L3, pk_mul, pk_sub (by omega)]; congr 1; omega
  have hc3 : ∀ (x : Option (Int32 × St)), ck (decide ((3 : Int32) ≠ 0)) x = x := fun x => by rw [show decide ((3 : Int32) ≠ 0) = true from by decide]; rfl
  constructor
  · intro v hv hv7
    change lpB_X8_layLine_4 (nI t) (lp_X8_layLine_4 (nI t) m) (nI l.length) (nI (3 * s + p)) (upr st 79 g) = _
    unfold lpB_X8_layLine_4
    rw [h70, e1, if_neg (nI_ge (by omega) (by omega)), hc3, hc3, hc3, e2, e3, hasM ht (by omega), bs_s, hv, bs_s, lt_eq, if_neg (nI_pos (by omega)), ck_in hl (by decide), lt_eq, lt_eq, lt_eq, nI_clamp (by omega), nI_1, nI_1, up_upr]
  · intro hv
    change lpB_X8_layLine_4 (nI t) (lp_X8_layLine_4 (nI t) m) (nI l.length) (nI (3 * s + p)) (upr st 79 g) = _
    unfold lpB_X8_layLine_4
    rw [h70, e1, if_neg (nI_ge (by omega) (by omega)), hc3, hc3, hc3, e2, e3, hasM ht (by omega), bs_s, hv, bs_s, lt_eq, if_pos neg6, lt_eq, nI_1]
theorem line_lp {S : Sn} {st : St} {t : Nat} (hS : SnOk S) (hm : ModRep S st) (ht : t < 2 ^ 31) : ∀ (d s m : Nat) (g : Nat → Int32), s + d = sN S → 3 * d < m → Ln (sl S t s) g → ∃ g' : Nat → Int32, lp_X8_layLine_4 (nI t) m (nI (sl S t s).length) (nI (3 * s)) (upr st 79 g) = some (nI (sl S t (sN S)).length, upr st 79 g') ∧ Ln (sl S t (sN S)) g' := by
  intro d
  induction d with
  | zero =>
    intro s m g h1 h2 hg
    obtain ⟨m', rfl⟩ : ∃ m', m = m' + 1 := ⟨m - 1, by omega⟩
    have hs : s = sN S := by omega
    have hn10 := hS.1
    refine ⟨g, ?_, by rw [← hs]; exact hg⟩
    change lpB_X8_layLine_4 (nI t) (lp_X8_layLine_4 (nI t) m') _ _ _ = _
    unfold lpB_X8_layLine_4
    rw [show (upr st 79 g) 70 0 = nI (sN S) by simp only [upr_app, Nat.reduceEqDiff, reduceIte]; exact hm.1, show (3 : Int32) * nI (sN S) = nI (3 * sN S) by rw [L3, pk_mul], hs, if_pos (nI_le (Nat.le_refl _) (by omega))]
  | succ d ih =>
    intro s m g h1 h2 hg
    obtain ⟨m', rfl⟩ : ∃ m', m = m' + 3 := ⟨m - 3, by omega⟩
    have hs : s < sN S := by omega
    have hn10 := hS.1
    have hlen := sl_len S t s
    have hmg : ∀ g, ModRep S (upr st 79 g) := fun g => hm.kept (by simp [upr_app]) (by simp [upr_app]) (by simp [upr_app]) (by simp [upr_app]) (by simp [upr_app]) (by simp [upr_app]) (by simp [upr_app]) (by simp [upr_app])
    have hb := hS.2.1 s hs
    obtain ⟨a1, a2, a3⟩ := seenM hS (hmg g) hs (t.testBit s)
    have hq0 : (sq S s (t.testBit s)).getD 0 0 < 7 := by
      unfold sq
      split
      · exact hb.2.2.1
      · split
        · exact hb.2.2.2.1
        · exact hb.2.2.1
    have r0 := (line_step (m := m' + 2) (l := sl S t s) (g := g) (p := 0) hS hm hs (by decide) ht (by omega)).1 _ a1 hq0
    have g1 : Ln (sl S t s ++ [(sq S s (t.testBit s)).getD 0 0]) (upd g (sl S t s).length (nI ((sq S s (t.testBit s)).getD 0 0))) := hg.add
    obtain ⟨b1, b2, b3⟩ := seenM hS (hmg (upd g (sl S t s).length (nI ((sq S s (t.testBit s)).getD 0 0)))) hs (t.testBit s)
    by_cases hk : sK S s = 0
    · rw [if_pos hk] at b2
      have r1 := (line_step (m := m' + 1) (l := sl S t s ++ [(sq S s (t.testBit s)).getD 0 0]) (g := upd g (sl S t s).length (nI ((sq S s (t.testBit s)).getD 0 0))) (p := 1) hS hm hs (by decide) ht (by rw [List.length_append, List.length_singleton]; omega)).2 b2
      have r2 := (line_step (m := m') (l := sl S t s ++ [(sq S s (t.testBit s)).getD 0 0]) (g := upd g (sl S t s).length (nI ((sq S s (t.testBit s)).getD 0 0))) (p := 2) hS hm hs (by decide) ht (by rw [List.length_append, List.length_singleton]; omega)).1 _ b3 hb.2.1
      have hsl : sl S t (s + 1) = sl S t s ++ [(sq S s (t.testBit s)).getD 0 0] ++ [sT S s] := by
        show sl S t s ++ sq S s (t.testBit s) = _
        unfold sq
        rw [if_pos hk]
        simp
      obtain ⟨g', k1, k2⟩ := ih (s + 1) m' _ (by omega) (by omega) (by rw [hsl]; exact g1.add)
      refine ⟨g', ?_, k2⟩
      rw [← k1, hsl]
      simp only [List.length_append, List.length_singleton] at r1 r2 ⊢
      exact r0.trans (r1.trans r2)
    · rw [if_neg hk] at b2
      have hq1 : (sq S s (t.testBit s)).getD 1 0 < 7 := by
        unfold sq
        rw [if_neg hk]
        split
        · exact hb.2.2.1
        · exact hb.2.2.2.1
      have r1 := (line_step (m := m' + 1) (l := sl S t s ++ [(sq S s (t.testBit s)).getD 0 0]) (g := upd g (sl S t s).length (nI ((sq S s (t.testBit s)).getD 0 0))) (p := 1) hS hm hs (by decide) ht (by rw [List.length_append, List.length_singleton]; omega)).1 _ b2 hq1
      obtain ⟨c1, c2, c3⟩ := seenM hS (hmg (upd (upd g (sl S t s).length (nI ((sq S s (t.testBit s)).getD 0 0))) (sl S t s ++ [(sq S s (t.testBit s)).getD 0 0]).length (nI ((sq S s (t.testBit s)).getD 1 0)))) hs (t.testBit s)
      have r2 := (line_step (m := m') (l := sl S t s ++ [(sq S s (t.testBit s)).getD 0 0] ++ [(sq S s (t.testBit s)).getD 1 0]) (p := 2) hS hm hs (by decide) ht (by rw [List.length_append, List.length_append, List.length_singleton, List.length_singleton]; omega)).1 _ c3 hb.2.1
      have hsl : sl S t (s + 1) = sl S t s ++ [(sq S s (t.testBit s)).getD 0 0] ++ [(sq S s (t.testBit s)).getD 1 0] ++ [sT S s] := by
        show sl S t s ++ sq S s (t.testBit s) = _
        unfold sq
        rw [if_neg hk]
        split <;> simp
      obtain ⟨g', k1, k2⟩ := ih (s + 1) m' _ (by omega) (by omega) (by rw [hsl]; exact (g1.add).add)
      refine ⟨g', ?_, k2⟩
      rw [← k1, hsl]
      simp only [List.length_append, List.length_singleton] at r1 r2 ⊢
      exact r0.trans (r1.trans r2)
theorem lineM {S : Sn} {st : St} {t N : Nat} (hN : 31 ≤ N) (hS : SnOk S) (hm : ModRep S st) (ht : t < 2 ^ 31) : ∃ g : Nat → Int32, F_X8_layLine N (nI t) st = some (nI (sl S t (sN S)).length, upr st 79 g) ∧ Ln (sl S t (sN S)) g := by
  obtain ⟨g, h1, h2⟩ := line_lp hS hm ht (sN S) 0 N (st 79) (by omega) (by have := hS.1; omega) (fun i hi => by simp [sl] at hi)
  refine ⟨g, ?_, h2⟩
  rw [upr_id] at h1
  unfold F_X8_layLine
  rw [lt_eq, lt_eq]
  exact h1
