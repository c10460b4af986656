-- numbers, and what the small words do
theorem lt_eq {α β : Type} (v : α) (k : α → β) : lt v k = k v := rfl
theorem bs_s {β γ : Type} (x : β) (k : β → Option γ) : bs (some x) k = k x := rfl
theorem bd_s {α β γ : Type} (a : α) (b : β) (k : α → β → Option γ) : bd (some (a, b)) k = k a b := rfl
theorem ck_t {α : Type} (x : Option α) : ck true x = x := rfl
theorem ck_d {α : Type} {c : Prop} [Decidable c] (h : c) (x : Option α) : ck (decide c) x = x := by rw [decide_eq_true h]; rfl
theorem itf_s {α : Type} (f : α → α) (z : α) (n : Nat) : itf f z (n + 1) = f (itf f z n) := rfl
theorem inb_nI {i n : Nat} (h : i < n) (hn : n < 2 ^ 31) : inb (nI i) n = true := by
  have h1 : ¬ nI i < 0 := nI_pos (by omega)
  have h2 : (nI i).toNatClampNeg = i := nI_clamp (by omega)
  unfold inb
  rw [h2]
  simp [h1]
  omega
theorem ck_in {α : Type} {i n : Nat} (h : i < n) (hn : n < 2 ^ 31) (x : Option α) : ck (inb (nI i) n) x = x := by rw [inb_nI h hn]; rfl
theorem up_app {st : St} {k i a b : Nat} {v : Int32} : up st k i v a b = if a = k then (if b = i then v else st a b) else st a b := by
  unfold up upd
  by_cases h : a = k <;> simp [h]
theorem up_row {st : St} {k i a : Nat} {v : Int32} : up st k i v a = if a = k then upd (st a) i v else st a := rfl
theorem upr_app {st : St} {k a : Nat} {f : Nat → Int32} : upr st k f a = if a = k then f else st a := rfl
theorem upd_app {f : Nat → Int32} {i b : Nat} {v : Int32} : upd f i v b = if b = i then v else f b := rfl
theorem L0 : (0 : Int32) = nI 0 := rfl
theorem L1 : (1 : Int32) = nI 1 := rfl
theorem L2 : (2 : Int32) = nI 2 := rfl
theorem L3 : (3 : Int32) = nI 3 := rfl
theorem L4 : (4 : Int32) = nI 4 := rfl
theorem L5 : (5 : Int32) = nI 5 := rfl
theorem L6 : (6 : Int32) = nI 6 := rfl
theorem L7 : (7 : Int32) = nI 7 := rfl
theorem L8 : (8 : Int32) = nI 8 := rfl
theorem L10 : (10 : Int32) = nI 10 := rfl
theorem L40 : (40 : Int32) = nI 40 := rfl
theorem L47 : (47 : Int32) = nI 47 := rfl
theorem L49 : (49 : Int32) = nI 49 := rfl
theorem L54 : (54 : Int32) = nI 54 := rfl
theorem L61 : (61 : Int32) = nI 61 := rfl
theorem L62 : (62 : Int32) = nI 62 := rfl
theorem L127 : (127 : Int32) = nI 127 := rfl
theorem L128 : (128 : Int32) = nI 128 := rfl
theorem Lm1 (n : Nat) : nI (n + 1) + (-1) = nI n := pk_m1 n
theorem c0 : (0 : Int32).toNatClampNeg = 0 := rfl
theorem c1 : (1 : Int32).toNatClampNeg = 1 := rfl
theorem c2 : (2 : Int32).toNatClampNeg = 2 := rfl
theorem nb0 : vp_nar .boolean (0 : Int32) = 0 := rfl
theorem nb1 : vp_nar .boolean (1 : Int32) = 1 := rfl
theorem nr0 : narrow .boolean (.int (0 : Int32)) = .int 0 := rfl
theorem nr1 : narrow .boolean (.int (1 : Int32)) = .int 1 := rfl
theorem nI0 : nI 0 = 0 := rfl
theorem nI1 : nI 1 = 1 := rfl
theorem i32_le {a b : Int32} : a ≤ b ↔ a.toInt ≤ b.toInt := Int32.le_iff_toInt_le
theorem i32_lt {a b : Int32} : a < b ↔ a.toInt < b.toInt := Int32.lt_iff_toInt_lt
/-- an int is in a row's range, or it isn't -/
theorem ix (x : Int32) (n : Nat) (hn : n < 2 ^ 31) : (∃ j : Nat, j < n ∧ x = nI j) ∨ (x < 0 ∨ nI n ≤ x) := by
  rcases pk_ix x hn with h | h | h
  · exact Or.inr (Or.inl h)
  · exact Or.inr (Or.inr h)
  · exact Or.inl h
-- a program as both sides hold it: how many, the statements, the free set, values, cells by hand
abbrev Sn : Type := Nat × (Nat → Nat × Nat × Nat × Nat) × Nat × (Nat → Int32) × (Nat → Nat)
def sN (S : Sn) : Nat := S.1
def sK (S : Sn) (i : Nat) : Nat := (S.2.1 i).1
def sT (S : Sn) (i : Nat) : Nat := (S.2.1 i).2.1
def sL (S : Sn) (i : Nat) : Nat := (S.2.1 i).2.2.1
def sR (S : Sn) (i : Nat) : Nat := (S.2.1 i).2.2.2
def sF (S : Sn) : Nat := S.2.2.1
def sV (S : Sn) : Nat → Int32 := S.2.2.2.1
def sH (S : Sn) : Nat → Nat := S.2.2.2.2
def bi (b : Bool) : Int32 := if b then 1 else 0
def SnOk (S : Sn) : Prop := sN S ≤ 10 ∧ (∀ i, i < sN S → sK S i ≤ 4 ∧ sT S i < 7 ∧ sL S i < 7 ∧ sR S i < 7 ∧ (sK S i = 0 → sR S i = sL S i)) ∧ sF S < 128 ∧ (sF S).testBit 0 = false ∧ ∀ v, v < 7 → sH S v < 7
/-- the class's State at id b -/
def ClsRep (b : Nat) (S : Sn) (st : St) : Prop := st b 0 = nI (sN S) ∧ (∀ i, i < sN S → st (b + 1) i = nI (sK S i) ∧ st (b + 2) i = nI (sT S i) ∧ st (b + 3) i = nI (sL S i) ∧ st (b + 4) i = nI (sR S i)) ∧ st b 5 = nI (sF S) ∧ ∀ v, v < 7 → st (b + 5) v = sV S v ∧ st (b + 6) v = nI (sH S v)
/-- the reference -/
def ModRep (S : Sn) (st : St) : Prop := st 70 0 = nI (sN S) ∧ (∀ i, i < sN S → st 71 i = nI (sK S i) ∧ st 72 i = nI (sT S i) ∧ st 73 i = nI (sL S i) ∧ st 74 i = nI (sR S i)) ∧ (∀ v, v < 7 → st 75 v = sV S v ∧ st 76 v = nI (sH S v)) ∧ ∀ d, d < 7 → st 77 d = bi ((sF S).testBit d)
/-- the reference's image j -/
def ImgRep (j : Nat) (S : Sn) (st : St) : Prop := st 93 (62 * j + 61) = nI (sN S) ∧ (∀ i, i < sN S → st 93 (62 * j + 4 * i) = nI (sK S i) ∧ st 93 (62 * j + 4 * i + 1) = nI (sT S i) ∧ st 93 (62 * j + 4 * i + 2) = nI (sL S i) ∧ st 93 (62 * j + 4 * i + 3) = nI (sR S i)) ∧ ∀ v, v < 7 → st 93 (62 * j + 40 + v) = sV S v ∧ st 93 (62 * j + 47 + v) = nI (sH S v) ∧ st 93 (62 * j + 54 + v) = bi ((sF S).testBit v)
def Sam (k : Nat) (st st' : St) : Prop := st' k = st k
theorem ClsRep.kept {b : Nat} {S : Sn} {st st' : St} (h : ClsRep b S st) (h0 : st' b = st b) (h1 : st' (b + 1) = st (b + 1)) (h2 : st' (b + 2) = st (b + 2)) (h3 : st' (b + 3) = st (b + 3)) (h4 : st' (b + 4) = st (b + 4)) (h5 : st' (b + 5) = st (b + 5)) (h6 : st' (b + 6) = st (b + 6)) : ClsRep b S st' := by
  unfold ClsRep at *
  rw [h0, h1, h2, h3, h4, h5, h6]
  exact h
theorem ModRep.kept {S : Sn} {st st' : St} (h : ModRep S st) (h0 : st' 70 0 = st 70 0) (h1 : st' 71 = st 71) (h2 : st' 72 = st 72) (h3 : st' 73 = st 73) (h4 : st' 74 = st 74) (h5 : st' 75 = st 75) (h6 : st' 76 = st 76) (h7 : st' 77 = st 77) : ModRep S st' := by
  unfold ModRep at *
  rw [h0, h1, h2, h3, h4, h5, h6, h7]
  exact h
theorem ImgRep.kept {j : Nat} {S : Sn} {st st' : St} (h : ImgRep j S st) (h0 : st' 93 = st 93) : ImgRep j S st' := by
  unfold ImgRep at *
  rw [h0]
  exact h
-- what both ask of a number
theorem in_spec (v a b : Int32) : F_X8_in v a b = some (if v < a then 0 else if b < v then 0 else 1) := by
  unfold F_X8_in
  simp only [lt_eq]
  split
  · rfl
  · split <;> rfl
theorem var_t {j : Nat} (h : j < 7) : F_X7_isVariable (nI j) = some 1 ∧ F_X8_isVariable (nI j) = some 1 := by
  have : ∀ j, j < 7 → F_X7_isVariable (nI j) = some 1 ∧ F_X8_isVariable (nI j) = some 1 := by decide +kernel
  exact this j h
theorem var_f {x : Int32} (h : x < 0 ∨ nI 7 ≤ x) : F_X7_isVariable x = some 0 ∧ F_X8_isVariable x = some 0 := by
  have h7 : (nI 7).toInt = 7 := by decide
  have e : (x < 0 ∨ (6 : Int32) < x) := by
    rcases h with h | h
    · exact Or.inl h
    · refine Or.inr ?_
      rw [i32_le, h7] at h
      rw [i32_lt, show (6 : Int32).toInt = 6 from by decide]
      omega
  constructor
  · unfold F_X7_isVariable
    simp only [lt_eq]
    rcases e with e | e
    · simp [e]
    · have e2 : ¬ x < 7 := by
        rw [i32_lt, show (7 : Int32).toInt = 7 from by decide]
        rw [i32_lt, show (6 : Int32).toInt = 6 from by decide] at e
        omega
      simp [e2]
  · unfold F_X8_isVariable
    rw [in_spec]
    rcases e with e | e
    · simp [e, bs_s, nr0, ck]
    · by_cases hx : x < 0 <;> simp [e, hx, bs_s, nr0, ck]
theorem var_c (x : Int32) : (∃ j : Nat, j < 7 ∧ x = nI j ∧ F_X7_isVariable x = some 1 ∧ F_X8_isVariable x = some 1) ∨ (F_X7_isVariable x = some 0 ∧ F_X8_isVariable x = some 0) := by
  rcases ix x 7 (by decide) with ⟨j, h, rfl⟩ | h
  · exact Or.inl ⟨j, h, rfl, var_t h⟩
  · exact Or.inr (var_f h)
theorem stm_t {st : St} {n j : Nat} (hn : n ≤ 10) (h1 : st 1 0 = nI n) (h2 : st 70 0 = nI n) (h : j < n) : F_X5_has (nI j) st = some 1 ∧ F_X8_isStatement (nI j) st = some 1 := by
  have hp : ¬ nI j < 0 := nI_pos (by omega)
  constructor
  · unfold F_X5_has
    simp only [lt_eq, h1]
    rw [if_neg hp, if_neg (nI_ge h (by omega))]
  · unfold F_X8_isStatement
    obtain ⟨m, rfl⟩ : ∃ m, n = m + 1 := ⟨n - 1, by omega⟩
    rw [in_spec, h2, nI_pred, if_neg hp, if_neg (nI_nlt (by omega) (by omega))]
    rfl
theorem stm_f {st : St} {n : Nat} {x : Int32} (hn : n ≤ 10) (h1 : st 1 0 = nI n) (h2 : st 70 0 = nI n) (h : x < 0 ∨ nI n ≤ x) : F_X5_has x st = some 0 ∧ F_X8_isStatement x st = some 0 := by
  constructor
  · unfold F_X5_has
    simp only [lt_eq, h1]
    rcases h with h | h
    · simp [h]
    · have e : ¬ x < nI n := fun q => by rw [i32_lt] at q; rw [i32_le] at h; omega
      simp [e]
  · unfold F_X8_isStatement
    rw [in_spec, h2]
    rcases h with h | h
    · simp [h, bs_s, nr0, ck]
    · have e : nI n - 1 < x := by
        rw [i32_le, nI_toInt (by omega)] at h
        rw [i32_lt]
        rcases n with _ | n
        · rw [show (nI 0 - 1).toInt = -1 from by decide]
          omega
        · rw [nI_pred, nI_toInt (by omega)]
          omega
      by_cases hx : x < 0 <;> simp [e, hx, bs_s, nr0, ck]
theorem stm_c {st : St} {n : Nat} (x : Int32) (hn : n ≤ 10) (h1 : st 1 0 = nI n) (h2 : st 70 0 = nI n) : (∃ j : Nat, j < n ∧ x = nI j ∧ F_X5_has x st = some 1 ∧ F_X8_isStatement x st = some 1) ∨ (F_X5_has x st = some 0 ∧ F_X8_isStatement x st = some 0) := by
  rcases ix x n (by omega) with ⟨j, h, rfl⟩ | h
  · exact Or.inl ⟨j, h, rfl, stm_t hn h1 h2 h⟩
  · exact Or.inr (stm_f hn h1 h2 h)
