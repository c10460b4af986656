theorem tg_s {S : Sn} {fr : Nat → Nat → Nat} {mem : Nat → Bool} {mode : Bool} {k a : Nat} : tg S fr mem mode (k + 1) a = if ext fr mem (sq S (sN S - (k + 1)) false) (py S fr mem mode k) a = py S fr mem mode (k + 1) a then tg S fr mem mode k (wk fr mem a (sq S (sN S - (k + 1)) false)).2 else 2 ^ (sN S - (k + 1)) ||| tg S fr mem mode k (wk fr mem a (sq S (sN S - (k + 1)) true)).2 := rfl
theorem turned_lp {S : Sn} {st : St} {set N : Nat} {cl : Nat → Nat} {mode : Bool} (hN : 129 ≤ N) (hS : SnOk S) (hset : set < 128) (hm : ModRep S st) (hcl : CelM set cl st) {g : Nat → Int32} (hg : ∀ s y, s ≤ sN S → lastOk set y → g (8 * s + y) = nI (py S (frC (sF S) cl) (fun v => set.testBit v) mode (sN S - s) y)) : ∀ (k m s a T : Nat) (x : Int32), s + k = sN S → k < m → lastOk set a → ∃ x' : Int32, lp_X8_turnedFor_16 N (nI set) m (nI T) (nI a) (nI s) (stP st g x) = some (nI (T ||| tg S (frC (sF S) cl) (fun v => set.testBit v) mode k a), stP st g x') := by
  intro k
  have hn := hS.1
  induction k with
  | zero =>
    intro m s a T x h1 h2 ha
    obtain ⟨m', rfl⟩ : ∃ m', m = m' + 1 := ⟨m - 1, by omega⟩
    refine ⟨x, ?_⟩
    change lpB_X8_turnedFor_16 N (nI set) (lp_X8_turnedFor_16 N (nI set) m') (nI T) (nI a) (nI s) (stP st g x) = _
    unfold lpB_X8_turnedFor_16
    rw [(hm.stP (g := g) (x := x)).1, if_pos (nI_le (by omega) (by omega))]
    show some (nI T, _) = some (nI (T ||| 0), _)
    rw [Nat.or_zero]
  | succ k ih =>
    intro m s a T x h1 h2 ha
    obtain ⟨m', rfl⟩ : ∃ m', m = m' + 1 := ⟨m - 1, by omega⟩
    change ∃ x' : Int32, lpB_X8_turnedFor_16 N (nI set) (lp_X8_turnedFor_16 N (nI set) m') (nI T) (nI a) (nI s) (stP st g x) = _
    unfold lpB_X8_turnedFor_16
    have hs : s < sN S := by omega
    have ha8 : a < 8 := by rcases ha with h | h <;> omega
    have hsk : sN S - (k + 1) = s := by omega
    rw [(hm.stP (g := g) (x := x)).1, if_neg (nI_ge hs (by omega))]
    have hpb := pbM (N := N) (b := false) (P := py S (frC (sF S) cl) (fun v => set.testBit v) mode k) (by omega) hS hset (hm.stP (g := g) (x := x)) (hcl.stP (g := g) (x := x)) hs ha (by
      intro y hy
      rw [stP_r, hg (s + 1) y (by omega) hy, show sN S - (s + 1) = k by omega])
    rw [show (0 : Int32) = bi false from rfl, hpb, bd_s, stP_up]
    have hgsa : g (8 * s + a) = nI (py S (frC (sF S) cl) (fun v => set.testBit v) mode (k + 1) a) := by
      rw [hg s a (by omega) ha, show sN S - s = k + 1 by omega]
    have b1 := ext_le (mem := fun v => set.testBit v) (frC_le (sF S) cl) (P := py S (frC (sF S) cl) (fun v => set.testBit v) mode k) (b := 3 * k) (fun y => py_le (frC_le _ _) k y) (sq S s false) a
    have b2 := sq_len S s false
    have b3 := py_le (S := S) (mem := fun v => set.testBit v) (mode := mode) (frC_le (sF S) cl) (k + 1) a
    have hsh := shl1 s (by omega)
    rw [tg_s, hsk]
    simp (disch := omega) only [lt_eq, L8, pk_mul, nI_add, ck_in, nI_clamp, stP_r, hgsa, nI_1, hsh]
    have hcM : ∀ (b : Bool) (x : Int32), F_X8_costOf N (nI s) (bi b) (nI set) (nI a) (stP st g x) = some (nI (wk (frC (sF S) cl) (fun v => set.testBit v) a (sq S s b)).1, stP st g (nI (wk (frC (sF S) cl) (fun v => set.testBit v) a (sq S s b)).2)) := by
      intro b x
      rw [coM (by omega) hS hset (hm.stP (g := g) (x := x)) (hcl.stP (g := g) (x := x)) hs ha, stP_up]
    have h7012 : ∀ x, (stP st g x) 70 12 = x := by
      intro x
      unfold stP
      rw [up_row, if_pos rfl, upd_app, if_pos rfl]
    have hok : ∀ b, lastOk set (wk (frC (sF S) cl) (fun v => set.testBit v) a (sq S s b)).2 := fun b => wk_ok _ _ (fun v hv => sq_lt hS hs hv) ha
    by_cases he : ext (frC (sF S) cl) (fun v => set.testBit v) (sq S s false) (py S (frC (sF S) cl) (fun v => set.testBit v) mode k) a = py S (frC (sF S) cl) (fun v => set.testBit v) mode (k + 1) a
    · rw [if_pos (by rw [he]), if_pos he]
      rw [if_neg (by decide), if_neg (by decide)]
      rw [hcM false, bd_s, h7012]
      have := ih m' (s + 1) _ T (nI (wk (frC (sF S) cl) (fun v => set.testBit v) a (sq S s false)).2) (by omega) (by omega) (hok false)
      rw [show (bi false) = nI 0 from rfl, nI_or, Nat.or_zero]
      exact this
    · rw [if_neg (by rw [nI_eq (by omega) (by omega)]; exact he), if_neg he]
      rw [if_pos trivial, if_pos trivial]
      rw [show (1 : Int32) = bi true from rfl, hcM true, bd_s, h7012, nI_or]
      have := ih m' (s + 1) _ (T ||| 2 ^ s) (nI (wk (frC (sF S) cl) (fun v => set.testBit v) a (sq S s true)).2) (by omega) (by omega) (hok true)
      rw [Nat.or_assoc] at this
      exact this
theorem turnedM {S : Sn} {st : St} {set N : Nat} {cl : Nat → Nat} {mode : Bool} (hN : 129 ≤ N) (hS : SnOk S) (hset : set < 128) (hm : ModRep S st) (hcl : CelM set cl st) : ∃ (g : Nat → Int32) (x : Int32), F_X8_turnedFor N (nI set) (bi mode) st = some (nI (tg S (frC (sF S) cl) (fun v => set.testBit v) mode (sN S) 7), stP st g x) := by
  obtain ⟨g, x, a1, a2⟩ := layPayM (N := N) (mode := mode) (by omega) hS hset hm hcl
  obtain ⟨x', b1⟩ := turned_lp (mode := mode) hN hS hset hm hcl a2 (sN S) N 0 7 0 x (by omega) (by have := hS.1; omega) (Or.inl rfl)
  refine ⟨g, x', ?_⟩
  unfold F_X8_turnedFor
  rw [a1, bd_s, lt_eq, lt_eq, lt_eq]
  rw [Nat.zero_or] at b1
  exact b1
-- the cost of a way to give registers
theorem py_none {S : Sn} {fr : Nat → Nat → Nat} {mem : Nat → Bool} {mode : Bool} (h : ∀ v, mem v = false) : ∀ k a, py S fr mem mode k a = 0 := by
  intro k
  induction k with
  | zero => intro a; rfl
  | succ k ih =>
    intro a
    rw [py_ext]
    have e : ∀ l, ext fr mem l (py S fr mem mode k) a = 0 := by
      intro l
      unfold ext
      rw [wk_none l (fun v _ => h v), ih]
    rw [e, e]
    split <;> rfl
theorem opt_0 (S : Sn) (mode : Bool) : (opt S 0 mode).1 = 0 := by
  rw [(opt_spec S 0 mode).1]
  exact py_none (fun v => by simp) _ _
theorem opt_le {S : Sn} (hS : SnOk S) (set : Nat) (mode : Bool) : (opt S set mode).1 ≤ 30 := by
  rw [(opt_spec S set mode).1]
  exact cost_le hS _ _ _
theorem blk_sub {used g : Nat} {asg : List Nat} (hl : asg.length = (mems used).length) : sub (blk (mems used) asg g) used = true := by
  rw [sub_iff]
  intro v hv hb
  exact ((blk_iff hl).mp hb).2.1
theorem good_c {S : Sn} {mode : Bool} {st : St} {set : Nat} (h : Good S mode st) (hs : set < 128) (hsub : sub set (usedS S) = true) : st 82 (128 * mode.toNat + set) = nI (opt S set mode).1 := by
  rcases Nat.eq_zero_or_pos set with rfl | h0
  · rw [opt_0]
    exact h.1
  · exact (h.2 set h0 hs hsub).1
theorem costNowM {S : Sn} {mode : Bool} {st : St} {asg : List Nat} (hG : Good S mode st) (hl : asg.length = (mems (usedS S)).length) (h87 : ∀ q, q < 3 → st 87 q = nI (blk (mems (usedS S)) asg q)) : F_X8_costNow (bi mode) st = some (nI (costAsg S mode asg)) := by
  unfold F_X8_costNow costAsg
  have hm : mode.toNat < 2 := by cases mode <;> decide
  have l0 := blk_lt (used := usedS S) (g := 0) hl
  have l1 := blk_lt (used := usedS S) (g := 1) hl
  have l2 := blk_lt (used := usedS S) (g := 2) hl
  have g0 := good_c hG l0 (blk_sub hl)
  have g1 := good_c hG l1 (blk_sub hl)
  have g2 := good_c hG l2 (blk_sub hl)
  rw [show inb (0 : Int32) 3 = true from rfl, show inb (1 : Int32) 3 = true from rfl, show inb (2 : Int32) 3 = true from rfl, ck_t, ck_t, ck_t, c0, c1, c2, h87 0 (by decide), h87 1 (by decide), h87 2 (by decide), bi_t]
  simp (disch := omega) only [L128, pk_mul, nI_add, ck_in, nI_clamp, g0, g1, g2]
