-- the start: what the tables say, and the first invariant
def S0 : Sn := (0, fun _ => (0, 0, 0, 0), 2, fun _ => 0, fun v => v)
def IM (st : St) : Prop := st 70 0 = 0 ∧ (∀ v, v < 7 → st 75 v = 0 ∧ st 76 v = nI v) ∧ (∀ d, d < 7 → st 77 d = bi (decide (d = 1))) ∧ (∀ j, j < 2 → st 78 j = 0 ∧ st 94 j = 0) ∧ ∀ j, j < 256 → st 82 j = 0
theorem sub_0 : ∀ set, set < 128 → 0 < set → sub set 0 = false := by decide +kernel
theorem bit_2 : ∀ d, d < 7 → bi (decide (d = 1)) = bi ((2 : Nat).testBit d) := by decide
theorem inv_new {st : St} (hx : IX st) (hm : IM st) : Inv st := by
  obtain ⟨x1, x2, x3, x4, x5, x6, x7, x8, x9⟩ := hx
  obtain ⟨m1, m2, m3, m4, m5⟩ := hm
  refine ⟨S0, fun _ => false, fun _ => S0, ⟨by decide, fun i hi => absurd hi (Nat.not_lt_zero i), by decide, by decide, fun v hv => hv⟩, ⟨x2, fun i hi => absurd hi (Nat.not_lt_zero i), x3, fun v hv => x4 v hv⟩, ⟨m1, fun i hi => absurd hi (Nat.not_lt_zero i), fun v hv => m2 v hv, fun d hd => (m3 d hd).trans (bit_2 d hd)⟩, ⟨x5, ⟨x6, x7, x9⟩, ?_, ?_, ?_⟩, x1, fun j hj => (m4 j hj).2, fun j hj h => by cases h⟩
  · intro mode set a b c
    rw [show sub set (usedS (pg S0)) = sub set 0 from rfl, sub_0 set b a] at c
    cases c
  · intro r mode a b
    exact Or.inl (x8 _ (by cases mode <;> simp <;> omega))
  · intro mode
    refine Or.inr ⟨(m4 _ (by cases mode <;> decide)).1, m5 _ (by cases mode <;> decide), fun set a b c => ?_⟩
    rw [show sub set (usedS (pg S0)) = sub set 0 from rfl, sub_0 set b a] at c
    cases c
theorem nst_in (w : Cond) (i : Nat) (h : lw_tbl[i]? = some w) : w ∈ lw_tbl := List.mem_of_getElem? h
