theorem canM {S : Sn} {st : St} {s : Nat} (hS : SnOk S) (hm : ModRep S st) (hs : s < sN S) : F_X8_canTurn (nI s) st = some (bi (canT S s)) := by
  have hn10 := hS.1
  obtain ⟨m1, m2, m3, m4⟩ := hm.2.1 s hs
  obtain ⟨b1, b2, b3, b4, -⟩ := hS.2.1 s hs
  have hck : ∀ (x : Option Int32), ck (inb (nI s) 10) x = x := fun x => ck_in (by omega) (by decide) x
  unfold F_X8_canTurn canT
  simp only [hck, nI_clamp (show s < 2 ^ 31 by omega), m1, m3, m4, lt_eq]
  have e1 : (nI (sK S s) = 1) ↔ sK S s = 1 := nI_eq (b := 1) (by omega) (by decide)
  have e3 : (nI (sK S s) = 3) ↔ sK S s = 3 := nI_eq (b := 3) (by omega) (by decide)
  have e4 : (nI (sK S s) = 4) ↔ sK S s = 4 := nI_eq (b := 4) (by omega) (by decide)
  have eL : (nI (sL S s) = nI (sR S s)) ↔ sL S s = sR S s := nI_eq (by omega) (by omega)
  simp only [e1, e3, e4, eL]
  by_cases k1 : sK S s = 1
  · by_cases hl : sL S s = sR S s <;> simp [k1, hl, bi]
  · by_cases k3 : sK S s = 3
    · by_cases hl : sL S s = sR S s <;> simp [k3, hl, bi]
    · by_cases k4 : sK S s = 4
      · by_cases hl : sL S s = sR S s <;> simp [k4, hl, bi]
      · simp [k1, k3, k4, bi]
def turnK (S : Sn) : Nat → Nat
  | 0 => 0
  | k + 1 => if canT S k then turnK S k ||| 2 ^ k else turnK S k
theorem turnK_bit (S : Sn) (s : Nat) : ∀ k, (turnK S k).testBit s = (decide (s < k) && canT S s) := by
  intro k
  induction k with
  | zero => simp [turnK]
  | succ k ih =>
    unfold turnK
    by_cases hc : canT S k = true
    · rw [if_pos hc, Nat.testBit_or, ih, Nat.testBit_two_pow]
      by_cases e : s = k
      · subst e; simp [hc]
      · have e2 : ¬ k = s := fun h => e h.symm
        have e3 : (s < k) ↔ (s < k + 1) := by omega
        simp [e2, e3]
    · rw [if_neg hc, ih]
      by_cases e : s = k
      · subst e
        have : canT S s = false := by cases h : canT S s; rfl; exact absurd h hc
        simp [this]
      · have e3 : (s < k) ↔ (s < k + 1) := by omega
        simp [e3]
theorem turnK_no {S : Sn} {s : Nat} (h : canT S s = false) : turnK S (s + 1) = turnK S s := if_neg (show ¬ canT S s = true by rw [h]; decide)
theorem turnK_lt (S : Sn) : ∀ k, turnK S k < 2 ^ k := by
  intro k
  induction k with
  | zero => show 0 < 1; decide
  | succ k ih =>
    unfold turnK
    have h1 : turnK S k < 2 ^ (k + 1) := Nat.lt_of_lt_of_le ih (Nat.pow_le_pow_right (by decide) (by omega))
    split
    · exact Nat.or_lt_two_pow h1 (Nat.pow_lt_pow_right (by decide) (by omega))
    · exact h1
theorem turn_lt {S : Sn} (hS : SnOk S) : turnK S (sN S) < 1024 := Nat.lt_of_lt_of_le (turnK_lt S _) (Nat.le_trans (Nat.pow_le_pow_right (by decide) hS.1) (by decide))
theorem turnX_lp {S : Sn} {st : St} (hS : SnOk S) (hc : ClsRep 1 S st) : ∀ (m s : Nat), s ≤ sN S → sN S - s < m → lp_X5_turnable_4 st m (nI (turnK S s)) (nI s) = some (nI (turnK S (sN S))) := by
  intro m
  induction m with
  | zero => intro s h1 h2; omega
  | succ m ih =>
    intro s h1 h2
    have hn10 := hS.1
    change lpB_X5_turnable_4 st (lp_X5_turnable_4 st m) _ _ = _
    unfold lpB_X5_turnable_4
    rw [hc.1]
    by_cases hs : s = sN S
    · rw [hs, if_pos (nI_le (Nat.le_refl _) (by omega))]
    · have hsn : s < sN S := by omega
      rw [if_neg (nI_ge hsn (by omega))]
      obtain ⟨k1, k2, k3, k4⟩ := hc.2.1 s hsn
      simp only [Nat.reduceAdd] at k1 k2 k3 k4
      obtain ⟨b1, b2, b3, b4, -⟩ := hS.2.1 s hsn
      have hck : ∀ (x : Option Int32), ck (inb (nI s) 10) x = x := fun x => ck_in (by omega) (by decide) x
      have hnx := ih (s + 1) (by omega) (by omega)
      simp only [hck, nI_clamp (show s < 2 ^ 31 by omega), k1, k3, k4, lt_eq, nI_1, shl1 s (by omega), nI_or]
      have e0 : (nI (sK S s) = 0) ↔ sK S s = 0 := nI_eq (b := 0) (by omega) (by decide)
      have e2 : (nI (sK S s) = 2) ↔ sK S s = 2 := nI_eq (b := 2) (by omega) (by decide)
      have eL : (nI (sL S s) = nI (sR S s)) ↔ sL S s = sR S s := nI_eq (by omega) (by omega)
      simp only [e0, e2, eL]
      by_cases h0 : sK S s = 0
      · rw [if_pos h0]
        rw [turnK_no (show canT S s = false by unfold canT; simp [h0])] at hnx
        exact hnx
      · by_cases h2 : sK S s = 2
        · rw [if_neg h0, if_pos h2]
          rw [turnK_no (show canT S s = false by unfold canT; simp [h2])] at hnx
          exact hnx
        · by_cases hl : sL S s = sR S s
          · rw [if_neg h0, if_neg h2, if_pos hl]
            rw [turnK_no (show canT S s = false by unfold canT; simp [hl])] at hnx
            exact hnx
          · rw [if_neg h0, if_neg h2, if_neg hl]
            have hcan : canT S s = true := by
              unfold canT
              rcases (show sK S s = 1 ∨ sK S s = 3 ∨ sK S s = 4 by omega) with h | h | h <;> simp [h, hl]
            rw [show turnK S (s + 1) = turnK S s ||| 2 ^ s by show (if canT S s then _ else _) = _; rw [if_pos hcan]] at hnx
            exact hnx
theorem turnX {S : Sn} {st : St} {N : Nat} (hN : 31 ≤ N) (hS : SnOk S) (hc : ClsRep 1 S st) : F_X5_turnable N st = some (nI (turnK S (sN S))) := by
  unfold F_X5_turnable
  rw [lt_eq, lt_eq]
  exact turnX_lp hS hc N 0 (by omega) (by have := hS.1; omega)
-- pay
theorem pbM {S : Sn} {st : St} {s set a N : Nat} {cl P : Nat → Nat} {b : Bool} (hN : 4 ≤ N) (hS : SnOk S) (hset : set < 128) (hm : ModRep S st) (hcl : CelM set cl st) (hs : s < sN S) (ha : lastOk set a) (hP : ∀ y, lastOk set y → st 81 (8 * (s + 1) + y) = nI (P y)) : F_X8_payBehind N (nI s) (bi b) (nI set) (nI a) st = some (nI (ext (frC (sF S) cl) (fun v => set.testBit v) (sq S s b) P a), up st 70 12 (nI (wk (frC (sF S) cl) (fun v => set.testBit v) a (sq S s b)).2)) := by
  have hn10 := hS.1
  have hlast := wk_ok (fr := frC (sF S) cl) (set := set) (sq S s b) a (fun v hv => sq_lt hS hs hv) ha
  have hl7 : (wk (frC (sF S) cl) (fun v => set.testBit v) a (sq S s b)).2 ≤ 7 := by rcases hlast with h | h <;> omega
  unfold F_X8_payBehind ext
  rw [coM hN hS hset hm hcl hs ha, bd_s, lt_eq]
  generalize hw : wk (frC (sF S) cl) (fun v => set.testBit v) a (sq S s b) = w at *
  rw [show (up st 70 12 (nI w.2)) 70 12 = nI w.2 by simp [up_app], nI_1, L8, pk_mul, nI_add, ck_in (by omega) (by decide), nI_clamp (by omega), show (up st 70 12 (nI w.2)) 81 (8 * (s + 1) + w.2) = st 81 (8 * (s + 1) + w.2) by simp [up_app], hP _ hlast, nI_add]
theorem ext_le {fr : Nat → Nat → Nat} {mem : Nat → Bool} (h1 : ∀ a v, fr a v ≤ 1) {P : Nat → Nat} {b : Nat} (hP : ∀ y, P y ≤ b) (l : List Nat) (a : Nat) : ext fr mem l P a ≤ l.length + b := by
  unfold ext
  have := wk_le (mem := mem) h1 l a
  have := hP (wk fr mem a l).2
  omega
theorem py_ext {S : Sn} {fr : Nat → Nat → Nat} {mem : Nat → Bool} {mode : Bool} {k a : Nat} : py S fr mem mode (k + 1) a = if mode && canT S (sN S - (k + 1)) then min (ext fr mem (sq S (sN S - (k + 1)) false) (py S fr mem mode k) a) (ext fr mem (sq S (sN S - (k + 1)) true) (py S fr mem mode k) a) else ext fr mem (sq S (sN S - (k + 1)) false) (py S fr mem mode k) a := rfl
theorem min_le' (x y : Nat) (hx : x < 2 ^ 31) (hy : y < 2 ^ 31) : (if nI y ≤ nI x then nI y else nI x) = nI (min x y) := by
  by_cases h : y ≤ x
  · rw [if_pos ((nI_leI hy hx).mpr h), Nat.min_eq_right h]
  · rw [if_neg (fun q => h ((nI_leI hy hx).mp q)), Nat.min_eq_left (by omega)]
def stP (st : St) (g : Nat → Int32) (x : Int32) : St := up (upr st 81 g) 70 12 x
theorem stP_up {st : St} {g : Nat → Int32} {x y : Int32} : up (stP st g x) 70 12 y = stP st g y := by
  unfold stP
  funext k i
  simp only [up_app]
  split
  · split <;> rfl
  · rfl
theorem stP_81 {st : St} {g : Nat → Int32} {x y : Int32} {i : Nat} : up (stP st g x) 81 i y = stP st (upd g i y) x := by
  unfold stP
  funext k
  simp only [up_row, upr_app]
  by_cases h : k = 81
  · subst h; simp
  · by_cases h2 : k = 70
    · subst h2; simp
    · simp [h, h2]
theorem ModRep.stP {S : Sn} {st : St} {g : Nat → Int32} {x : Int32} (h : ModRep S st) : ModRep S (stP st g x) := by
  unfold Jvm.Pilot.@@N@@.stP
  exact h.kept (by simp [up_app, upr_app]) (by simp [up_row, upr_app]) (by simp [up_row, upr_app]) (by simp [up_row, upr_app]) (by simp [up_row, upr_app]) (by simp [up_row, upr_app]) (by simp [up_row, upr_app]) (by simp [up_row, upr_app])
theorem CelM.stP {set : Nat} {cl : Nat → Nat} {st : St} {g : Nat → Int32} {x : Int32} (h : CelM set cl st) : CelM set cl (stP st g x) := by
  intro v hv hb
  unfold Jvm.Pilot.@@N@@.stP
  simp only [up_row, upr_app, Nat.reduceEqDiff, reduceIte]
  exact h v hv hb
theorem stP_r {st : St} {g : Nat → Int32} {x : Int32} {i : Nat} : stP st g x 81 i = g i := by simp [stP, up_row, upr_app]
theorem lp_in {S : Sn} {st : St} {s k set N : Nat} {cl : Nat → Nat} {mode : Bool} (hN : 4 ≤ N) (hS : SnOk S) (hset : set < 128) (hm : ModRep S st) (hcl : CelM set cl st) (hs : s + (k + 1) = sN S) (K : St → Option (Int32 × St)) : ∀ (m la : Nat) (g : Nat → Int32) (x : Int32), la ≤ 8 → 8 - la < m → (∀ y, lastOk set y → g (8 * (s + 1) + y) = nI (py S (frC (sF S) cl) (fun v => set.testBit v) mode k y)) → (∀ y, y < la → lastOk set y → g (8 * s + y) = nI (py S (frC (sF S) cl) (fun v => set.testBit v) mode (k + 1) y)) → ∃ (g' : Nat → Int32) (x' : Int32), lp_X8_layPay_43 N (nI set) (bi mode) (nI s) K m (nI la) (stP st g x) = K (stP st g' x') ∧ (∀ y, lastOk set y → g' (8 * s + y) = nI (py S (frC (sF S) cl) (fun v => set.testBit v) mode (k + 1) y)) ∧ ∀ i, (i < 8 * s ∨ 8 * s + 8 ≤ i) → g' i = g i := by
  have hn10 := hS.1
  have hpy : ∀ y, py S (frC (sF S) cl) (fun v => set.testBit v) mode k y ≤ 30 := fun y => Nat.le_trans (py_le (frC_le _ _) k y) (by omega)
  intro m
  induction m with
  | zero => intro la g x h1 h2; omega
  | succ m ih =>
    intro la g x h1 h2 h3 h4
    change ∃ (g' : Nat → Int32) (x' : Int32), lpB_X8_layPay_43 N (nI set) (bi mode) (nI s) K (lp_X8_layPay_43 N (nI set) (bi mode) (nI s) K m) (nI la) (stP st g x) = _ ∧ _
    unfold lpB_X8_layPay_43
    by_cases hla : la = 8
    · subst hla
      rw [if_pos (by decide)]
      exact ⟨g, x, rfl, fun y hy => h4 y (by rcases hy with h | h <;> omega) hy, fun _ _ => rfl⟩
    · have hla8 : la < 8 := by omega
      rw [if_neg (by rw [L8]; exact nI_ge hla8 (by decide))]
      have hsn : sN S - (k + 1) = s := by omega
      -- a number is laid
      have lay : ∀ (v : Nat) (x' : Int32), lastOk set la → v = py S (frC (sF S) cl) (fun v => set.testBit v) mode (k + 1) la → ∃ (g' : Nat → Int32) (x'' : Int32), ck (inb (((8 : Int32) * nI s) + nI la) 88) (lp_X8_layPay_43 N (nI set) (bi mode) (nI s) K m (nI la + 1) (up (stP st g x') 81 (((8 : Int32) * nI s) + nI la).toNatClampNeg (nI v))) = K (stP st g' x'') ∧ (∀ y, lastOk set y → g' (8 * s + y) = nI (py S (frC (sF S) cl) (fun v => set.testBit v) mode (k + 1) y)) ∧ ∀ i, (i < 8 * s ∨ 8 * s + 8 ≤ i) → g' i = g i := by
        intro v x' hok hv
        rw [L8, pk_mul, nI_add, ck_in (by omega) (by decide), nI_clamp (by omega), nI_1, stP_81]
        obtain ⟨g', x'', r1, r2, r3⟩ := ih (la + 1) (upd g (8 * s + la) (nI v)) x' (by omega) (by omega) (by
          intro y hy
          rw [upd_app, if_neg (by rcases hy with h | h <;> omega)]
          exact h3 y hy) (by
          intro y hy1 hy
          rw [upd_app]
          by_cases e : y = la
          · rw [if_pos (by rw [e]), e, hv]
          · rw [if_neg (by omega)]; exact h4 y (by omega) hy)
        refine ⟨g', x'', r1, r2, fun i hi => ?_⟩
        rw [r3 i hi, upd_app, if_neg (by omega)]
      have core : lastOk set la → ∃ (g' : Nat → Int32) (x'' : Int32), bd (F_X8_payBehind N (nI s) (0 : Int32) (nI set) (nI la) (stP st g x)) (fun (r28 : Int32) (s29 : St) => (if bi mode = (1 : Int32) then bs (F_X8_canTurn (nI s) s29) (fun (r40 : Int32) => (if r40 = 0 then (if r28 ≤ r28 then ck (inb (((8 : Int32) * nI s) + nI la) 88) (lp_X8_layPay_43 N (nI set) (bi mode) (nI s) K m (nI la + 1) (up s29 81 (((8 : Int32) * nI s) + nI la).toNatClampNeg r28)) else ck (inb (((8 : Int32) * nI s) + nI la) 88) (lp_X8_layPay_43 N (nI set) (bi mode) (nI s) K m (nI la + 1) (up s29 81 (((8 : Int32) * nI s) + nI la).toNatClampNeg r28))) else bd (F_X8_payBehind N (nI s) (1 : Int32) (nI set) (nI la) s29) (fun (r41 : Int32) (s42 : St) => (if r41 ≤ r28 then ck (inb (((8 : Int32) * nI s) + nI la) 88) (lp_X8_layPay_43 N (nI set) (bi mode) (nI s) K m (nI la + 1) (up s42 81 (((8 : Int32) * nI s) + nI la).toNatClampNeg r41)) else ck (inb (((8 : Int32) * nI s) + nI la) 88) (lp_X8_layPay_43 N (nI set) (bi mode) (nI s) K m (nI la + 1) (up s42 81 (((8 : Int32) * nI s) + nI la).toNatClampNeg r28)))))) else (if r28 ≤ r28 then ck (inb (((8 : Int32) * nI s) + nI la) 88) (lp_X8_layPay_43 N (nI set) (bi mode) (nI s) K m (nI la + 1) (up s29 81 (((8 : Int32) * nI s) + nI la).toNatClampNeg r28)) else ck (inb (((8 : Int32) * nI s) + nI la) 88) (lp_X8_layPay_43 N (nI set) (bi mode) (nI s) K m (nI la + 1) (up s29 81 (((8 : Int32) * nI s) + nI la).toNatClampNeg r28))))) = K (stP st g' x'') ∧ (∀ y, lastOk set y → g' (8 * s + y) = nI (py S (frC (sF S) cl) (fun v => set.testBit v) mode (k + 1) y)) ∧ ∀ i, (i < 8 * s ∨ 8 * s + 8 ≤ i) → g' i = g i := by
        intro hok
        have p0 := pbM (N := N) (b := false) (a := la) (P := py S (frC (sF S) cl) (fun v => set.testBit v) mode k) hN hS hset (ModRep.stP (g := g) (x := x) hm) (CelM.stP (g := g) (x := x) hcl) (show s < sN S by omega) hok (fun y hy => by rw [stP_r]; exact h3 y hy)
        rw [stP_up] at p0
        have b0 := ext_le (mem := fun v => set.testBit v) (frC_le (sF S) cl) hpy (sq S s false) la
        have l0 := sq_len S s false
        rw [show F_X8_payBehind N (nI s) (0 : Int32) (nI set) (nI la) (stP st g x) = _ from p0, bd_s]
        generalize hE0 : ext (frC (sF S) cl) (fun v => set.testBit v) (sq S s false) (py S (frC (sF S) cl) (fun v => set.testBit v) mode k) la = E0 at *
        have hrefl : (nI E0 ≤ nI E0) := (nI_leI (by omega) (by omega)).mpr (Nat.le_refl _)
        have hpe := py_ext (S := S) (fr := frC (sF S) cl) (mem := fun v => set.testBit v) (mode := mode) (k := k) (a := la)
        rw [hsn, hE0] at hpe
        by_cases hmo : mode = true
        · rw [if_pos (show bi mode = 1 by rw [hmo]; rfl), canM hS (ModRep.stP hm) (by omega), bs_s]
          by_cases hca : canT S s = true
          · rw [if_pos (show (mode && canT S s) = true by rw [hmo, hca]; rfl)] at hpe
            have p1 := pbM (N := N) (b := true) (a := la) (P := py S (frC (sF S) cl) (fun v => set.testBit v) mode k) hN hS hset (ModRep.stP (g := g) (x := nI (wk (frC (sF S) cl) (fun v => set.testBit v) la (sq S s false)).2) hm) (CelM.stP (g := g) (x := nI (wk (frC (sF S) cl) (fun v => set.testBit v) la (sq S s false)).2) hcl) (show s < sN S by omega) hok (fun y hy => by rw [stP_r]; exact h3 y hy)
            rw [stP_up] at p1
            have b1 := ext_le (mem := fun v => set.testBit v) (frC_le (sF S) cl) hpy (sq S s true) la
            have l1 := sq_len S s true
            rw [if_neg (by rw [hca]; decide), show F_X8_payBehind N (nI s) (1 : Int32) (nI set) (nI la) _ = _ from p1, bd_s]
            generalize hE1 : ext (frC (sF S) cl) (fun v => set.testBit v) (sq S s true) (py S (frC (sF S) cl) (fun v => set.testBit v) mode k) la = E1 at *
            by_cases hle : E1 ≤ E0
            · rw [if_pos ((nI_leI (by omega) (by omega)).mpr hle)]
              exact lay E1 _ hok (by rw [hpe]; omega)
            · rw [if_neg (fun q => hle ((nI_leI (by omega) (by omega)).mp q))]
              exact lay E0 _ hok (by rw [hpe]; omega)
          · have hca' : canT S s = false := by cases h : canT S s; rfl; exact absurd h hca
            rw [if_neg (show ¬ (mode && canT S s) = true by rw [hca']; simp)] at hpe
            rw [if_pos (by rw [hca']; rfl), if_pos hrefl]
            exact lay E0 _ hok hpe.symm
        · have hmo' : mode = false := by cases h : mode; rfl; exact absurd h hmo
          rw [if_neg (show ¬ (mode && canT S s) = true by rw [hmo']; simp)] at hpe
          rw [if_neg (show ¬ bi mode = 1 by rw [hmo']; decide), if_pos hrefl]
          exact lay E0 _ hok hpe.symm
      simp only [lt_eq]
      by_cases hl7 : la = 7
      · rw [if_pos (by rw [hl7]; rfl)]
        exact core (Or.inl hl7)
      · rw [if_neg (by rw [L7, nI_eq (by omega) (by decide)]; exact hl7), hasM (by omega) (by omega), bs_s]
        cases hb : set.testBit la with
        | false =>
          rw [if_pos (by rfl), nI_1]
          obtain ⟨g', x'', r1, r2, r3⟩ := ih (la + 1) g x (by omega) (by omega) h3 (by
            intro y hy1 hy
            by_cases e : y = la
            · exfalso
              subst e
              rcases hy with h | h
              · exact hl7 h
              · rw [hb] at h; cases h.2
            · exact h4 y (by omega) hy)
          exact ⟨g', x'', r1, r2, r3⟩
        | true =>
          rw [if_neg (by decide)]
          exact core (Or.inr ⟨by omega, hb⟩)
theorem lp_out {S : Sn} {st : St} {set N : Nat} {cl : Nat → Nat} {mode : Bool} (hN : 9 ≤ N) (hS : SnOk S) (hset : set < 128) (hm : ModRep S st) (hcl : CelM set cl st) (K : St → Option (Int32 × St)) : ∀ (j m : Nat) (g : Nat → Int32) (x : Int32), j ≤ sN S → j < m → (∀ s y, j ≤ s → s ≤ sN S → lastOk set y → g (8 * s + y) = nI (py S (frC (sF S) cl) (fun v => set.testBit v) mode (sN S - s) y)) → ∃ (g' : Nat → Int32) (x' : Int32), lp_X8_layPay_36 N (nI set) (bi mode) K m (nI j - 1) (stP st g x) = K (stP st g' x') ∧ ∀ s y, s ≤ sN S → lastOk set y → g' (8 * s + y) = nI (py S (frC (sF S) cl) (fun v => set.testBit v) mode (sN S - s) y) := by
  intro j
  have hn10 := hS.1
  induction j with
  | zero =>
    intro m g x h1 h2 h3
    obtain ⟨m', rfl⟩ : ∃ m', m = m' + 1 := ⟨m - 1, by omega⟩
    change ∃ (g' : Nat → Int32) (x' : Int32), lpB_X8_layPay_36 N (nI set) (bi mode) K (lp_X8_layPay_36 N (nI set) (bi mode) K m') (nI 0 - 1) (stP st g x) = _ ∧ _
    unfold lpB_X8_layPay_36
    rw [if_pos (by decide)]
    exact ⟨g, x, rfl, fun s y hs hy => h3 s y (by omega) hs hy⟩
  | succ j ih =>
    intro m g x h1 h2 h3
    obtain ⟨m', rfl⟩ : ∃ m', m = m' + 1 := ⟨m - 1, by omega⟩
    change ∃ (g' : Nat → Int32) (x' : Int32), lpB_X8_layPay_36 N (nI set) (bi mode) K (lp_X8_layPay_36 N (nI set) (bi mode) K m') (nI (j + 1) - 1) (stP st g x) = _ ∧ _
    unfold lpB_X8_layPay_36
    rw [nI_pred, if_neg (nI_pos (by omega)), lt_eq]
    obtain ⟨k, hk⟩ : ∃ k, j + (k + 1) = sN S := ⟨sN S - j - 1, by omega⟩
    obtain ⟨g', x', r1, r2, r3⟩ := lp_in (N := N) (s := j) (k := k) (mode := mode) (by omega) hS hset hm hcl hk (fun (s45 : St) => lt (nI j + (-1 : Int32)) (fun (v46 : Int32) => lp_X8_layPay_36 N (nI set) (bi mode) K m' v46 s45)) N 0 g x (by omega) (by omega) (by
      intro y hy
      rw [h3 (j + 1) y (Nat.le_refl _) h1 hy, show sN S - (j + 1) = k by omega]) (fun y hy => by omega)
    rw [nI0] at r1
    rw [r1, lt_eq, show nI j + (-1 : Int32) = nI j - 1 from (Int32.sub_eq_add_neg _ _).symm]
    refine ih m' g' x' (by omega) (by omega) ?_
    intro s y hs1 hs2 hy
    by_cases e : s = j
    · subst e
      rw [r2 y hy, show sN S - s = k + 1 by omega]
    · rw [r3 _ (by rcases hy with h | h <;> omega)]
      exact h3 s y (by omega) hs2 hy
theorem lp_zero {n : Nat} {st : St} (hn : n ≤ 10) (h70 : st 70 0 = nI n) (K : St → Option (Int32 × St)) : ∀ (m la : Nat) (g : Nat → Int32), la ≤ 8 → 8 - la < m → (∀ y, y < la → g (8 * n + y) = 0) → ∃ g' : Nat → Int32, lp_X8_layPay_2 K m (nI la) (upr st 81 g) = K (upr st 81 g') ∧ ∀ y, y < 8 → g' (8 * n + y) = 0 := by
  intro m
  induction m with
  | zero => intro la g h1 h2; omega
  | succ m ih =>
    intro la g h1 h2 h3
    change ∃ g' : Nat → Int32, lpB_X8_layPay_2 K (lp_X8_layPay_2 K m) (nI la) (upr st 81 g) = _ ∧ _
    unfold lpB_X8_layPay_2
    by_cases hla : la = 8
    · subst hla
      rw [if_pos (by decide)]
      exact ⟨g, rfl, h3⟩
    · rw [if_neg (by rw [L8]; exact nI_ge (by omega) (by decide)), show (upr st 81 g) 70 0 = nI n by simp only [upr_app, Nat.reduceEqDiff, reduceIte]; exact h70, L8, pk_mul, nI_add, ck_in (by omega) (by decide), lt_eq, lt_eq, nI_clamp (by omega), nI_1, up_upr]
      exact ih (la + 1) _ (by omega) (by omega) (by
        intro y hy
        rw [upd_app]
        split
        · rfl
        · exact h3 y (by omega))
theorem layPayM {S : Sn} {st : St} {set N : Nat} {cl : Nat → Nat} {mode : Bool} (hN : 12 ≤ N) (hS : SnOk S) (hset : set < 128) (hm : ModRep S st) (hcl : CelM set cl st) : ∃ (g : Nat → Int32) (x : Int32), F_X8_layPay N (nI set) (bi mode) st = some (nI (py S (frC (sF S) cl) (fun v => set.testBit v) mode (sN S) 7), stP st g x) ∧ ∀ s y, s ≤ sN S → lastOk set y → g (8 * s + y) = nI (py S (frC (sF S) cl) (fun v => set.testBit v) mode (sN S - s) y) := by
  have hn10 := hS.1
  obtain ⟨g1, a1, a2⟩ := lp_zero hS.1 hm.1 (fun (s24 : St) => lt ((s24 70 0) - (1 : Int32)) (fun (v25 : Int32) => lp_X8_layPay_36 N (nI set) (bi mode) (fun (s47 : St) => ck (inb (7 : Int32) 88) (some ((s47 81 (7 : Int32).toNatClampNeg), s47))) N v25 s24)) N 0 (st 81) (by omega) (by omega) (fun y hy => by omega)
  rw [upr_id, nI0] at a1
  have e : upr st 81 g1 = stP st g1 (st 70 12) := by
    unfold stP
    funext k i
    simp only [up_app, upr_app]
    by_cases h : k = 70
    · subst h
      simp only [Nat.reduceEqDiff, reduceIte]
      split
      · next h => rw [h]
      · rfl
    · rw [if_neg h]
  obtain ⟨g, x, b1, b2⟩ := lp_out (N := N) (mode := mode) (by omega) hS hset hm hcl (fun (s47 : St) => ck (inb (7 : Int32) 88) (some ((s47 81 (7 : Int32).toNatClampNeg), s47))) (sN S) N g1 (st 70 12) (Nat.le_refl _) (by omega) (by
    intro s y h1 h2 hy
    rw [show s = sN S by omega, a2 y (by rcases hy with h | h <;> omega), Nat.sub_self]
    rfl)
  refine ⟨g, x, ?_, b2⟩
  unfold F_X8_layPay
  rw [lt_eq, a1, lt_eq, e, show stP st g1 (st 70 12) 70 0 = nI (sN S) by unfold stP; simp only [up_app, upr_app, Nat.reduceEqDiff, reduceIte]; exact hm.1, b1, show inb (7 : Int32) 88 = true from by decide, ck_t, stP_r]
  have := b2 0 7 (by omega) (Or.inl rfl)
  rw [show (7 : Int32).toNatClampNeg = 8 * 0 + 7 from rfl, this, Nat.sub_zero]
