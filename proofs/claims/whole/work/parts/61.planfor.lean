theorem cellP_in {S : Sn} {r v g : Nat} {mode : Bool} (hr1 : 1 ≤ r) (hr3 : r ≤ 3) (hb : (blkOf S r mode g).testBit v = true) : cellP S r mode v = cellOf (mems (blkOf S r mode g)) (opt S (blkOf S r mode g) mode).2 v := by
  unfold cellP
  rw [((blkOf_iff hr1 hr3).mp hb).2.2]
theorem kdP : ∀ p, p < 6 → kd (38 + 3 * p) = 2 ∧ kd (38 + 3 * p + 2) = 9 ∧ ln (38 + 3 * p + 2) = 7 := by decide
theorem wr105 {S : Sn} {mode : Bool} {r N p fl : Nat} {cl : Nat → Nat} (hN : 129 ≤ N) (hS : SnOk S) (hr1 : 1 ≤ r) (hr3 : r ≤ 3) (hp : p < 6) (hfl : fl ≤ 3) (hcl7 : ∀ v, v < 7 → cl v < 7) (h7 : cl 7 = 7) (hclm : ∀ v, v < 7 → (usedS S).testBit v = true → cl v = cellP S r mode v) : ∀ (j m g : Nat) (st : St), g + j = fl → j < m → ClsRep 1 S st → FarR (sF S) st → st 32 12 = bi mode → st 32 13 = nI (mayB S mode) → st 32 15 = nI fl → (∀ q, q < 3 → st 63 q = nI (blkOf S r mode q)) → (∀ q, q < fl → st (57 + mode.toNat) (blkOf S r mode q) = nI (opt S (blkOf S r mode q) mode).1) → (∀ v, v < 7 → st (38 + 3 * p + 2) v = nI (cl v)) → st (38 + 3 * p) 3 = nI (turnQ S r mode g) → ∃ st' : St, lp_X3_write_105 N (38 + 3 * p) m (nI g) st = some st' ∧ st' (38 + 3 * p) 3 = nI (turnQ S r mode fl) ∧ (∀ k, k ∉ [25, 26, 28, 29, 30, 31] → k ≠ 38 + 3 * p → st' k = st k) ∧ ∀ i, i ≠ 3 → st' (38 + 3 * p) i = st (38 + 3 * p) i := by
  have hmm : mode.toNat < 2 := by cases mode <;> decide
  obtain ⟨kd1, kd2, kd3⟩ := kdP p hp
  intro j
  induction j with
  | zero =>
    intro m g st h1 h2 hc hf h12 h13 h15 h63 hfo hcs ht
    obtain ⟨m', rfl⟩ : ∃ m', m = m' + 1 := ⟨m - 1, by omega⟩
    obtain rfl : g = fl := by omega
    refine ⟨st, ?_, ht, fun _ _ _ => rfl, fun _ _ => rfl⟩
    change lpB_X3_write_105 N (38 + 3 * p) (lp_X3_write_105 N (38 + 3 * p) m') (nI g) st = _
    unfold lpB_X3_write_105
    rw [h15, if_pos (nI_le (Nat.le_refl _) (by omega))]
  | succ j ih =>
    intro m g st h1 h2 hc hf h12 h13 h15 h63 hfo hcs ht
    obtain ⟨m', rfl⟩ : ∃ m', m = m' + 1 := ⟨m - 1, by omega⟩
    change ∃ st' : St, lpB_X3_write_105 N (38 + 3 * p) (lp_X3_write_105 N (38 + 3 * p) m') (nI g) st = _ ∧ _
    unfold lpB_X3_write_105
    have hset : blkOf S r mode g < 128 := blk_lt (planA_len hr1 hr3).1
    have hcong := tg_congr (S := S) (mode := mode) (fr := frC (sF S) cl) (fr' := frC (sF S) (cellOf (mems (blkOf S r mode g)) (opt S (blkOf S r mode g) mode).2)) (mem := fun v => (blkOf S r mode g).testBit v) hS (by
      intro a v ha hv ma mv
      unfold frC
      rw [hclm a ha ((blkOf_iff hr1 hr3).mp ma).2.1, hclm v hv ((blkOf_iff hr1 hr3).mp mv).2.1, cellP_in hr1 hr3 ma, cellP_in hr1 hr3 mv]) (sN S) 7 (Nat.le_refl _) (Or.inl rfl)
    obtain ⟨s1, a1, a2⟩ := tinX (mode := mode) (N := N) (ac := 38 + 3 * p + 2) (cl := cl) hN hS hset (by simp only [List.mem_cons, List.not_mem_nil, or_false, not_or]; omega) kd2 kd3 (fun v hv => by have := hcl7 v hv; omega) h7 (fun v hv _ => hcl7 v hv) hc hf h12 h13 hcs (by
      rw [hfo g (by omega), hcong.1, (opt_spec S (blkOf S r mode g) mode).1]
      rfl)
    rw [hcong.2, ← turnB_eq] at a1
    rw [h15, if_neg (nI_ge (by omega) (by omega)), ck_in (by omega) (by decide), nI_clamp (by omega), h63 g (by omega), a1, bd_s, ht, nI_or, lt_eq, lt_eq, nI_1]
    rw [show turnQ S r mode g ||| turnB S (blkOf S r mode g) mode = turnQ S r mode (g + 1) from rfl]
    generalize hs2 : up s1 (38 + 3 * p) 3 (nI (turnQ S r mode (g + 1))) = s2
    have hk2 : ∀ k, k ∉ [25, 26, 28, 29, 30, 31] → k ≠ 38 + 3 * p → s2 k = st k := by
      intro k hk hne
      rw [← hs2, up_row, if_neg hne]
      exact a2 k hk
    have hpl : 38 + 3 * p ∉ [25, 26, 28, 29, 30, 31] := by
      simp only [List.mem_cons, List.not_mem_nil, or_false, not_or]; omega
    obtain ⟨st', r1, r2, r3, r4⟩ := ih m' (g + 1) s2 (by omega) (by omega) (hc.kept (hk2 _ (by decide) (by omega)) (hk2 _ (by decide) (by omega)) (hk2 _ (by decide) (by omega)) (hk2 _ (by decide) (by omega)) (hk2 _ (by decide) (by omega)) (hk2 _ (by decide) (by omega)) (hk2 _ (by decide) (by omega))) (by
      intro x y hx hy
      rw [hk2 27 (by decide) (by omega)]
      exact hf x y hx hy) (by rw [hk2 32 (by decide) (by omega)]; exact h12) (by rw [hk2 32 (by decide) (by omega)]; exact h13) (by rw [hk2 32 (by decide) (by omega)]; exact h15) (by rw [hk2 63 (by decide) (by omega)]; exact h63) (by
      rw [hk2 (57 + mode.toNat) (by simp only [List.mem_cons, List.not_mem_nil, or_false, not_or]; omega) (by omega)]
      exact hfo) (by
      rw [hk2 (38 + 3 * p + 2) (by simp only [List.mem_cons, List.not_mem_nil, or_false, not_or]; omega) (by omega)]
      exact hcs) (by rw [← hs2, up_row, if_pos rfl, upd_app, if_pos rfl])
    refine ⟨st', r1, r2, fun k hk hne => by rw [r3 k hk hne, hk2 k hk hne], fun i hi => ?_⟩
    rw [r4 i hi, ← hs2, up_row, if_pos rfl, upd_app, if_neg hi, a2 _ hpl]
theorem turnB_0 (S : Sn) (mode : Bool) : turnB S 0 mode = 0 := tg_none (fun v => by simp) _ _
theorem turnQ_fl {S : Sn} {r fl : Nat} {mode : Bool} (hfl : fl ≤ 3) (hR : RG (usedS S) (planA S r mode).2 fl) : turnQ S r mode fl = turnP S r mode := by
  rw [← turnQ_3]
  have hz : ∀ g, fl ≤ g → blkOf S r mode g = 0 := by
    intro g hg
    rcases Nat.eq_zero_or_pos (blkOf S r mode g) with h | h
    · exact h
    · have := (hR g).mp h; omega
  have hs : ∀ g, fl ≤ g → turnQ S r mode (g + 1) = turnQ S r mode g := by
    intro g hg
    show turnQ S r mode g ||| turnB S (blkOf S r mode g) mode = _
    rw [hz g hg, turnB_0, Nat.or_zero]
  rcases (show fl = 0 ∨ fl = 1 ∨ fl = 2 ∨ fl = 3 by omega) with rfl | rfl | rfl | rfl
  · rw [hs 2 (by omega), hs 1 (by omega), hs 0 (by omega)]
  · rw [hs 2 (by omega), hs 1 (by omega)]
  · rw [hs 2 (by omega)]
  · rfl
theorem filled_fl {S : Sn} {r fl : Nat} {mode : Bool} (hfl : fl ≤ 3) (hR : RG (usedS S) (planA S r mode).2 fl) : filled S r mode = fl := by
  have h : ∀ g, (blkOf S r mode g ≠ 0) = (g < fl) := by
    intro g
    apply propext
    rw [← hR g]
    show blkOf S r mode g ≠ 0 ↔ 0 < blkOf S r mode g
    omega
  unfold filled
  simp only [h]
  rcases (show fl = 0 ∨ fl = 1 ∨ fl = 2 ∨ fl = 3 by omega) with rfl | rfl | rfl | rfl <;> rfl
/-- what the class's plan p is -/
def PlanX (S : Sn) (r : Nat) (mode : Bool) (pl : Nat) (st : St) : Prop := st pl 1 = nI (planA S r mode).1 ∧ st pl 2 = nI (filled S r mode) ∧ st pl 3 = nI (turnP S r mode) ∧ ∀ v, v < 7 → (usedS S).testBit v = true → st (pl + 1) v = nI (regOf S r mode v) ∧ st (pl + 2) v = nI (cellP S r mode v)
theorem writeX {S : Sn} {mode : Bool} {r N p : Nat} {st : St} (hN : 129 ≤ N) (hS : SnOk S) (hr1 : 1 ≤ r) (hr3 : r ≤ 3) (hp : p < 6) (hP : PC S mode st) (hD : DP S mode ((planA S r mode).1, some (planA S r mode).2) st) (hC : ∀ v, v < 7 → ∃ c : Nat, c < 7 ∧ st (38 + 3 * p + 2) v = nI c) : ∃ st' : St, F_X3_write N (38 + 3 * p) st = some st' ∧ PlanX S r mode (38 + 3 * p) st' ∧ (∀ v, v < 7 → ∃ c : Nat, c < 7 ∧ st' (38 + 3 * p + 2) v = nI c) ∧ ∀ k, k ∉ [25, 26, 28, 29, 30, 31, 38 + 3 * p, 38 + 3 * p + 1, 38 + 3 * p + 2] → st' k = st k := by
  have hmm : mode.toNat < 2 := by cases mode <;> decide
  obtain ⟨kd1, kd2, kd3⟩ := kdP p hp
  obtain ⟨d1, d2⟩ := hD
  obtain ⟨-, fl, d3, d4, d5, d6, d7⟩ := d2 _ rfl
  simp only at d1
  have hbl : ∀ g, g < fl → 0 < blkOf S r mode g := fun g hg => (d5 g).mpr hg
  have hfloor : ∀ g, g < fl → st (57 + mode.toNat) (blkOf S r mode g) = nI (opt S (blkOf S r mode g) mode).1 ∧ st (60 + mode.toNat) (blkOf S r mode g) = nI (pack (mems (blkOf S r mode g)) (opt S (blkOf S r mode g) mode).2) := by
    intro g hg
    have hl := (planA_len (S := S) (mode := mode) hr1 hr3).1
    obtain ⟨f, q1, q2, q3⟩ := hP.2.2.2.2.2 (blkOf S r mode g) (hbl g hg) (blk_lt hl) (blk_sub hl)
    rcases q3 with q3 | ⟨q3, q4⟩
    · exact absurd q3 (d7 g hg)
    · rw [q1, q3]; exact ⟨rfl, q4⟩
  generalize hs3 : up (up (up st (38 + 3 * p) 1 (nI (planA S r mode).1)) (38 + 3 * p) 2 (nI fl)) (38 + 3 * p) 3 0 = s3
  have k3 : ∀ k, k ≠ 38 + 3 * p → s3 k = st k := fun k hk => by rw [← hs3, up_row, if_neg hk, up_row, if_neg hk, up_row, if_neg hk]
  have p3 : ∀ i, s3 (38 + 3 * p) i = if i = 3 then 0 else if i = 2 then nI fl else if i = 1 then nI (planA S r mode).1 else st (38 + 3 * p) i := by
    intro i
    rw [← hs3, up_row, if_pos rfl, upd_app, up_row, if_pos rfl, upd_app, up_row, if_pos rfl, upd_app]
  have h12 : s3 32 12 = bi mode := by rw [k3 32 (by omega)]; exact hP.2.2.2.1
  have h15 : s3 32 15 = nI fl := by rw [k3 32 (by omega)]; exact d3
  have h63 : ∀ g, g < 3 → s3 63 g = nI (blkOf S r mode g) := by rw [k3 63 (by omega)]; exact d6
  obtain ⟨G, C, a1, a2, a3⟩ := wr23 (S := S) (mode := mode) (r := r) (N := N) (pl := 38 + 3 * p) (st := s3) hN hr1 hr3 (by omega) (by omega) h12 h15 d4 h63 (fun g hg => by rw [k3 _ (by omega)]; exact (hfloor g hg).2) (fun (s34 : St) => lt (0 : Int32) (fun (v35 : Int32) => lp_X3_write_105 N (38 + 3 * p) N v35 s34)) fl N 0 (s3 (38 + 3 * p + 1)) (s3 (38 + 3 * p + 2)) (by omega) (by omega) (by
    intro u hu
    rw [k3 _ (by omega)]
    exact hC u hu) (fun u hu hb hr => by omega)
  have e0 : upr (upr s3 (38 + 3 * p + 1) (s3 (38 + 3 * p + 1))) (38 + 3 * p + 2) (s3 (38 + 3 * p + 2)) = s3 := by
    rw [upr_id]
    exact upr_id
  rw [e0, nI0] at a1
  generalize hs4 : upr (upr s3 (38 + 3 * p + 1) G) (38 + 3 * p + 2) C = s4 at a1
  have k4 : ∀ k, k ≠ 38 + 3 * p + 1 → k ≠ 38 + 3 * p + 2 → s4 k = s3 k := fun k h1 h2 => by rw [← hs4, upr_app, if_neg h2, upr_app, if_neg h1]
  have kk : ∀ k, k ≠ 38 + 3 * p → k ≠ 38 + 3 * p + 1 → k ≠ 38 + 3 * p + 2 → s4 k = st k := fun k h0 h1 h2 => by rw [k4 k h1 h2, k3 k h0]
  have hreg : ∀ u, u < 7 → (usedS S).testBit u = true → G u = nI (regOf S r mode u) ∧ C u = nI (cellP S r mode u) := by
    intro u hu hb
    refine a3 u hu hb ?_
    have h0 : 0 < blkOf S r mode (regOf S r mode u) := by
      have := (blkOf_iff (S := S) (mode := mode) hr1 hr3).mpr ⟨hu, hb, rfl⟩
      rcases Nat.eq_zero_or_pos (blkOf S r mode (regOf S r mode u)) with h | h
      · rw [h] at this; simp at this
      · exact h
    exact (d5 _).mp h0
  obtain ⟨cl, hcl⟩ : ∃ cl : Nat → Nat, ∀ u, u < 7 → cl u < 7 ∧ C u = nI (cl u) := by
    refine ⟨fun u => if h : u < 7 then (a2 u h).choose else 7, fun u hu => ?_⟩
    simp only [dif_pos hu]
    exact (a2 u hu).choose_spec
  have hc4 : ClsRep 1 S s4 := hP.1.kept (kk _ (by omega) (by omega) (by omega)) (kk _ (by omega) (by omega) (by omega)) (kk _ (by omega) (by omega) (by omega)) (kk _ (by omega) (by omega) (by omega)) (kk _ (by omega) (by omega) (by omega)) (kk _ (by omega) (by omega) (by omega)) (kk _ (by omega) (by omega) (by omega))
  obtain ⟨s5, b1, b2, b3, b4⟩ := wr105 (S := S) (mode := mode) (r := r) (p := p) (cl := fun u => if u < 7 then cl u else 7) hN hS hr1 hr3 hp d4 (fun v hv => by rw [if_pos hv]; exact (hcl v hv).1) (by rw [if_neg (by decide)]) (by
    intro v hv hb
    rw [if_pos hv]
    have h1 := (hcl v hv).2
    rw [(hreg v hv hb).2] at h1
    have h2 := (hcl v hv).1
    have h3 : cellP S r mode v < 7 := by
      have := (blkOf_iff (S := S) (mode := mode) hr1 hr3).mpr ⟨hv, hb, rfl⟩
      rw [cellP_in hr1 hr3 this]
      exact opt_cell hv this
    exact ((nI_eq (by omega) (by omega)).mp h1).symm) fl N 0 s4 (by omega) (by omega) hc4 (by
    intro x y hx hy
    rw [kk 27 (by omega) (by omega) (by omega)]
    exact hP.2.1 x y hx hy) (by rw [kk 32 (by omega) (by omega) (by omega)]; exact hP.2.2.2.1) (by rw [kk 32 (by omega) (by omega) (by omega)]; exact hP.2.2.2.2.1) (by rw [kk 32 (by omega) (by omega) (by omega)]; exact d3) (by rw [kk 63 (by omega) (by omega) (by omega)]; exact d6) (by
    intro q hq
    rw [kk _ (by omega) (by omega) (by omega)]
    exact (hfloor q hq).1) (by
    intro v hv
    rw [if_pos hv, ← hs4, upr_app, if_pos rfl]
    exact (hcl v hv).2) (by
    rw [k4 _ (by omega) (by omega), p3, if_pos rfl]
    rfl)
  have hpl : ∀ i, 38 + 3 * p + i ∉ [25, 26, 28, 29, 30, 31] := fun i => by
    simp only [List.mem_cons, List.not_mem_nil, or_false, not_or]; omega
  refine ⟨s5, ?_, ⟨?_, ?_, ?_, ?_⟩, ?_, ?_⟩
  · unfold F_X3_write
    rw [ck_d kd1, d1]
    simp only [lt_eq]
    rw [show (up st (38 + 3 * p) 1 (nI (planA S r mode).1)) 32 15 = nI fl by rw [up_row, if_neg (by omega)]; exact d3, hs3]
    simp only [lt_eq] at a1
    rw [a1]
    exact b1
  · rw [b4 1 (by decide), k4 _ (by omega) (by omega), p3, if_neg (by decide), if_neg (by decide), if_pos rfl]
  · rw [b4 2 (by decide), k4 _ (by omega) (by omega), p3, if_neg (by decide), if_pos rfl, filled_fl d4 d5]
  · rw [b2, turnQ_fl d4 d5]
  · intro v hv hb
    rw [b3 _ (hpl 1) (by omega), b3 _ (hpl 2) (by omega), ← hs4]
    rw [upr_app, if_neg (by omega), upr_app, if_pos rfl, upr_app, if_pos rfl]
    exact hreg v hv hb
  · intro v hv
    rw [b3 _ (hpl 2) (by omega), ← hs4, upr_app, if_pos rfl]
    exact ⟨cl v, hcl v hv⟩
  · intro k hk
    simp only [List.mem_cons, List.not_mem_nil, or_false, not_or] at hk
    rw [b3 k (by simp only [List.mem_cons, List.not_mem_nil, or_false, not_or]; omega) (by omega), kk k (by omega) (by omega) (by omega)]
-- the program and the free set alone
theorem tg_pg {S : Sn} {fr : Nat → Nat → Nat} {mem : Nat → Bool} {mode : Bool} : ∀ k a, tg (pg S) fr mem mode k a = tg S fr mem mode k a := by
  intro k
  induction k with
  | zero => intro a; rfl
  | succ k ih =>
    intro a
    rw [tg_s, tg_s, ih, ih, py_pg]
    have e : ∀ l, ext fr mem l (py (pg S) fr mem mode k) a = ext fr mem l (py S fr mem mode k) a := fun l => by
      unfold ext
      rw [py_pg]
    rw [e]
    rfl
theorem costAsg_pg {S : Sn} {mode : Bool} : costAsg (pg S) mode = costAsg S mode := by
  funext asg
  unfold costAsg
  rw [opt_pg, opt_pg, opt_pg]
  rfl
theorem planA_pg {S : Sn} {r : Nat} {mode : Bool} : planA (pg S) r mode = planA S r mode := by
  unfold planA
  rw [costAsg_pg]
  rfl
theorem regOf_pg {S : Sn} {r : Nat} {mode : Bool} {v : Nat} : regOf (pg S) r mode v = regOf S r mode v := by
  unfold regOf
  rw [planA_pg]
  rfl
theorem blkOf_pg {S : Sn} {r : Nat} {mode : Bool} {g : Nat} : blkOf (pg S) r mode g = blkOf S r mode g := by
  unfold blkOf
  rw [planA_pg]
  rfl
theorem cellP_pg {S : Sn} {r : Nat} {mode : Bool} {v : Nat} : cellP (pg S) r mode v = cellP S r mode v := by
  unfold cellP
  rw [regOf_pg, blkOf_pg, opt_pg]
theorem turnB_pg {S : Sn} {set : Nat} {mode : Bool} : turnB (pg S) set mode = turnB S set mode := by
  unfold turnB
  rw [tg_pg, opt_pg]
  rfl
theorem turnP_pg {S : Sn} {r : Nat} {mode : Bool} : turnP (pg S) r mode = turnP S r mode := by
  unfold turnP
  rw [blkOf_pg, blkOf_pg, blkOf_pg, turnB_pg, turnB_pg, turnB_pg]
theorem filled_pg {S : Sn} {r : Nat} {mode : Bool} : filled (pg S) r mode = filled S r mode := by
  unfold filled
  rw [blkOf_pg, blkOf_pg, blkOf_pg]
