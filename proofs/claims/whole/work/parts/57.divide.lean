theorem blk_add {used g h : Nat} {pre : List Nat} (hp : pre.length < (mems used).length) : blk (mems used) (pre ++ [g]) h = if h = g then blk (mems used) pre h ||| 2 ^ (mems used).getD pre.length 0 else blk (mems used) pre h := by
  have hz : (mems used).zip (pre ++ [g]) = (mems used).zip pre ++ [((mems used).getD pre.length 0, g)] := by
    have h1 : mems used = (mems used).take pre.length ++ (mems used).drop pre.length := (List.take_append_drop _ _).symm
    have h2 : (mems used).drop pre.length = (mems used).getD pre.length 0 :: (mems used).drop (pre.length + 1) := by
      rw [List.drop_eq_getElem_cons hp, List.getD_eq_getElem?_getD, List.getElem?_eq_getElem hp]
      rfl
    have h3 : ((mems used).take pre.length).length = pre.length := take_len (by omega)
    conv => lhs; rw [h1, List.zip_append h3, h2]
    have h4 : (mems used).zip pre = ((mems used).take pre.length).zip pre := by
      conv => lhs; rw [h1]
      rw [show pre = pre ++ [] from (List.append_nil _).symm, List.zip_append (by rw [List.append_nil]; exact h3)]
      simp
    rw [h4]
    simp
  unfold blk
  rw [hz, List.filter_append]
  by_cases e : h = g
  · subst e
    simp [List.foldl_append]
  · have : (g == h) = false := by simp; exact fun q => e q.symm
    simp [e, this]
theorem blk_bp {used g w : Nat} {pre : List Nat} (hp : pre.length ≤ (mems used).length) : ((blk (mems used) pre g).testBit w = true ↔ ∃ j, j < pre.length ∧ (mems used).getD j 0 = w ∧ pre.getD j 0 = g) := by
  have hz : (mems used).zip pre = ((mems used).take pre.length).zip pre := by
    have h1 : mems used = (mems used).take pre.length ++ (mems used).drop pre.length := (List.take_append_drop _ _).symm
    conv => lhs; rw [h1]
    rw [show pre = pre ++ [] from (List.append_nil _).symm, List.zip_append (by rw [List.append_nil]; exact take_len hp)]
    simp
  unfold blk
  rw [hz, blk_bit (us := mems used) (asg := pre)]
  have hl : ((mems used).take pre.length).length = pre.length := take_len hp
  have hg : ∀ j, j < pre.length → ((mems used).take pre.length).getD j 0 = (mems used).getD j 0 := by
    intro j hj
    rw [List.getD_eq_getElem?_getD, List.getD_eq_getElem?_getD, List.getElem?_take_of_lt hj]
  constructor
  · rintro (h | ⟨q, q1, q2, q3⟩)
    · simp at h
    · rw [show q = (q.1, q.2) from rfl, zip_mem hl.symm] at q1
      obtain ⟨j, j1, j2, j3⟩ := q1
      rw [hl] at j1
      rw [hg j j1] at j2
      exact ⟨j, j1, by rw [j2, q3], by rw [j3, q2]⟩
  · rintro ⟨j, j1, j2, j3⟩
    exact Or.inr ⟨(w, g), by rw [zip_mem hl.symm]; exact ⟨j, by omega, by rw [hg j j1]; exact j2, j3⟩, rfl, rfl⟩
theorem blk_facts {used g : Nat} {pre : List Nat} (hp : pre.length ≤ (mems used).length) : blk (mems used) pre g < 128 ∧ sub (blk (mems used) pre g) used = true := by
  constructor
  · apply Nat.lt_of_not_le
    intro h
    obtain ⟨i, i1, i2⟩ := Nat.exists_ge_and_testBit_of_ge_two_pow (n := 7) h
    obtain ⟨j, j1, j2, -⟩ := (blk_bp hp).mp i2
    have := mems_lt (set := used) (k := j) (by omega)
    omega
  · rw [sub_iff]
    intro v _ hb
    obtain ⟨j, j1, j2, -⟩ := (blk_bp hp).mp hb
    rw [← j2]
    exact mems_bit (by omega)
theorem blk_out {used g : Nat} {pre : List Nat} (hp : pre.length < (mems used).length) : (blk (mems used) pre g).testBit ((mems used).getD pre.length 0) = false := by
  cases h : (blk (mems used) pre g).testBit ((mems used).getD pre.length 0) with
  | false => rfl
  | true =>
    obtain ⟨j, j1, j2, -⟩ := (blk_bp (by omega)).mp h
    have := mems_inj (set := used) (by omega) hp j2
    omega
theorem blk_dis {used g h : Nat} {pre : List Nat} (hp : pre.length ≤ (mems used).length) (h0 : 0 < blk (mems used) pre g) (he : blk (mems used) pre g = blk (mems used) pre h) : g = h := by
  obtain ⟨v, -, hb⟩ := set_pos _ (blk_facts hp).1 h0
  have hb2 := hb
  rw [he] at hb2
  obtain ⟨j, j1, j2, j3⟩ := (blk_bp hp).mp hb
  obtain ⟨i, i1, i2, i3⟩ := (blk_bp hp).mp hb2
  have := mems_inj (set := used) (show j < (mems used).length by omega) (show i < (mems used).length by omega) (by rw [j2, i2])
  rw [← j3, ← i3, this]
def dvs (us : List Nat) (w r : Nat) : Nat → List Nat → Nat → List (List Nat)
  | 0, pre, _ => [pre]
  | k + 1, pre, fl => (List.range (min (fl + 1) r)).flatMap (fun g => if (mems (blk us pre g)).length < w then dvs us w r k (pre ++ [g]) (max fl (g + 1)) else [])
def dvC (us : List Nat) (w r k : Nat) (pre : List Nat) (fl e : Nat) : List (List Nat) := (List.range e).flatMap (fun g => if (mems (blk us pre g)).length < w then dvs us w r k (pre ++ [g]) (max fl (g + 1)) else [])
theorem dvC_s {us : List Nat} {w r k : Nat} {pre : List Nat} {fl e : Nat} : dvC us w r k pre fl (e + 1) = dvC us w r k pre fl e ++ (if (mems (blk us pre e)).length < w then dvs us w r k (pre ++ [e]) (max fl (e + 1)) else []) := by
  unfold dvC
  rw [List.range_succ, List.flatMap_append]
  simp
/-- registers 0 to fl-1 are those that have a variable -/
def RG (used : Nat) (pre : List Nat) (fl : Nat) : Prop := ∀ g, (0 < blk (mems used) pre g ↔ g < fl)
def DP (S : Sn) (mode : Bool) (a : BA) (st : St) : Prop := st 32 14 = nI a.1 ∧ ∀ asg, a.2 = some asg → asg.length = (mems (usedS S)).length ∧ ∃ fl, st 32 15 = nI fl ∧ fl ≤ 3 ∧ RG (usedS S) asg fl ∧ (∀ g, g < 3 → st 63 g = nI (blk (mems (usedS S)) asg g)) ∧ ∀ g, g < fl → st (60 + mode.toNat) (blk (mems (usedS S)) asg g) ≠ -1
def DS (S : Sn) (w r : Nat) (st : St) : Prop := st 32 9 = nI (mems (usedS S)).length ∧ st 32 10 = nI w ∧ st 32 11 = nI r ∧ ∀ j, j < (mems (usedS S)).length → st 64 j = nI ((mems (usedS S)).getD j 0)
theorem DS.kept {S : Sn} {mode : Bool} {w r : Nat} {st st' : St} (h : DS S w r st) (hf : CFr mode st st') : DS S w r st' := by
  have h64 : st' 64 = st 64 := hf.1 64 (by cases mode <;> decide)
  refine ⟨by rw [hf.2.1 9 (by decide) (by decide)]; exact h.1, by rw [hf.2.1 10 (by decide) (by decide)]; exact h.2.1, by rw [hf.2.1 11 (by decide) (by decide)]; exact h.2.2.1, by rw [h64]; exact h.2.2.2⟩
theorem bclr : ∀ b, b < 128 → ∀ v, v < 7 → b.testBit v = false → nI (b ||| 2 ^ v) &&& (nI (2 ^ v) ^^^ (-1 : Int32)) = nI b := by decide +kernel
theorem leafC {S : Sn} {mode : Bool} {asg : List Nat} {fl : Nat} (hfl : fl ≤ 3) (hR : RG (usedS S) asg fl) : sumR (fun i => (opt S (blk (mems (usedS S)) asg i) mode).1) fl = costAsg S mode asg := by
  have hz : ∀ g, fl ≤ g → (opt S (blk (mems (usedS S)) asg g) mode).1 = 0 := by
    intro g hg
    have : blk (mems (usedS S)) asg g = 0 := by
      rcases Nat.eq_zero_or_pos (blk (mems (usedS S)) asg g) with h | h
      · exact h
      · have := (hR g).mp h; omega
    rw [this, opt_0]
  unfold costAsg
  rcases (show fl = 0 ∨ fl = 1 ∨ fl = 2 ∨ fl = 3 by omega) with rfl | rfl | rfl | rfl
  · rw [hz 0 (by omega), hz 1 (by omega), hz 2 (by omega)]; rfl
  · rw [hz 1 (by omega), hz 2 (by omega)]; simp [sumR]
  · rw [hz 2 (by omega)]; simp [sumR]
  · simp [sumR]
def DRec (S : Sn) (mode : Bool) (N w r k dep : Nat) : Prop := ∀ (pre : List Nat) (fl : Nat) (a : BA) (st : St), pre.length + k = (mems (usedS S)).length → fl ≤ r → RG (usedS S) pre fl → a.1 ≤ 1100 → PC S mode st → DS S w r st → DP S mode a st → (∀ g, g < 3 → st 62 g = nI (blk (mems (usedS S)) pre g)) → ∃ st' : St, F_X3_divide N dep (nI pre.length) (nI fl) st = some st' ∧ PC S mode st' ∧ CFr mode st st' ∧ DP S mode ((dvs (mems (usedS S)) w r k pre fl).foldl (fB (costAsg S mode)) a) st'
theorem DP.up62 {S : Sn} {mode : Bool} {a : BA} {st : St} {g : Nat} {x : Int32} (h : DP S mode a st) : DP S mode a (up st 62 g x) := by
  unfold DP at *
  have h60 : (up st 62 g x) (60 + mode.toNat) = st (60 + mode.toNat) := by rw [up_row, if_neg (by cases mode <;> decide)]
  rw [up_row, if_neg (show ¬ 32 = 62 by decide), h60, show (up st 62 g x) 63 = st 63 by rw [up_row, if_neg (by decide)]]
  exact h
theorem PC.up62 {S : Sn} {mode : Bool} {st : St} {g : Nat} {x : Int32} (h : PC S mode st) : PC S mode (up st 62 g x) := by
  have hk : ∀ k, k ≠ 62 → (up st 62 g x) k = st k := fun k hk => by rw [up_row, if_neg hk]
  obtain ⟨a1, a2, a3, a4, a5, a6⟩ := h
  refine ⟨a1.kept (hk _ (by decide)) (hk _ (by decide)) (hk _ (by decide)) (hk _ (by decide)) (hk _ (by decide)) (hk _ (by decide)) (hk _ (by decide)), ?_, ?_, ?_, ?_, ?_⟩
  · intro p q hp hq
    rw [hk 27 (by decide)]; exact a2 p q hp hq
  · rw [hk 34 (by decide)]; exact a3
  · rw [hk 32 (by decide)]; exact a4
  · rw [hk 32 (by decide)]; exact a5
  · unfold FloM
    rw [hk (57 + mode.toNat) (by cases mode <;> decide), hk (60 + mode.toNat) (by cases mode <;> decide)]
    exact a6
theorem DS.up62 {S : Sn} {w r : Nat} {st : St} {g : Nat} {x : Int32} (h : DS S w r st) : DS S w r (up st 62 g x) := by
  unfold DS at *
  rw [up_row, if_neg (show ¬ 32 = 62 by decide), show (up st 62 g x) 64 = st 64 by rw [up_row, if_neg (by decide)]]
  exact h
theorem div_lp {S : Sn} {mode : Bool} {N w r k dep : Nat} (hS : SnOk S) (hr1 : 1 ≤ r) (hr3 : r ≤ 3) (hw : w ≤ 8) (hrec : DRec S mode N w r k dep) {pre : List Nat} {fl : Nat} {a : BA} (hk : pre.length + (k + 1) = (mems (usedS S)).length) (hfl : fl ≤ r) (hR : RG (usedS S) pre fl) (ha : a.1 ≤ 1100) (e : Nat) (he : e = min (fl + 1) r) : ∀ (m g : Nat) (st : St), g ≤ e → e - g < m → PC S mode st → DS S w r st → DP S mode ((dvC (mems (usedS S)) w r k pre fl g).foldl (fB (costAsg S mode)) a) st → (∀ h, h < 3 → st 62 h = nI (blk (mems (usedS S)) pre h)) → ∃ st' : St, lp_X3_divide_38 (nI pre.length) (nI fl) (nI (2 ^ (mems (usedS S)).getD pre.length 0)) (nI e) (F_X3_divide N dep) m (nI g) st = some st' ∧ PC S mode st' ∧ CFr mode st st' ∧ DP S mode ((dvC (mems (usedS S)) w r k pre fl e).foldl (fB (costAsg S mode)) a) st' := by
  have hn := mems_len (usedS S)
  have hpl : pre.length < (mems (usedS S)).length := by omega
  have hv7 := mems_lt hpl
  intro m
  induction m with
  | zero => intro g st h1 h2; omega
  | succ m ih =>
    intro g st h1 h2 hP hD hA h62
    change ∃ st' : St, lpB_X3_divide_38 (nI pre.length) (nI fl) (nI (2 ^ (mems (usedS S)).getD pre.length 0)) (nI e) (F_X3_divide N dep) (lp_X3_divide_38 (nI pre.length) (nI fl) (nI (2 ^ (mems (usedS S)).getD pre.length 0)) (nI e) (F_X3_divide N dep) m) (nI g) st = _ ∧ _
    unfold lpB_X3_divide_38
    by_cases hg : g = e
    · rw [if_pos (by rw [hg]; exact nI_le (Nat.le_refl _) (by omega))]
      rw [hg] at hA
      exact ⟨st, rfl, hP, CFr.refl, hA⟩
    · have hge : g < e := by omega
      have hg3 : g < 3 := by omega
      obtain ⟨bl1, bl2⟩ := blk_facts (used := usedS S) (g := g) (pre := pre) (by omega)
      have hbo := blk_out (g := g) hpl
      have e62 := h62 g hg3
      have e10 := hD.2.1
      have hbl := mems_len (blk (mems (usedS S)) pre g)
      rw [if_neg (nI_ge hge (by omega)), ck_in hg3 (by decide), nI_clamp (by omega), e62, bitCX _ bl1, bs_s, e10]
      by_cases hwc : (mems (blk (mems (usedS S)) pre g)).length < w
      · rw [if_neg (by rw [nI_leI (by omega) (by omega)]; omega), ck_in hg3 (by decide), ck_in hg3 (by decide), nI_or, lt_eq]
        generalize hA0 : (dvC (mems (usedS S)) w r k pre fl g).foldl (fB (costAsg S mode)) a = A at hA
        have hAle : A.1 ≤ 1100 := by
          have := (fB_le (val := costAsg S mode) (dvC (mems (usedS S)) w r k pre fl g) a).1
          rw [hA0] at this
          omega
        have hmax : (if nI fl < nI g + 1 then nI g + 1 else nI fl) = nI (max fl (g + 1)) := by
          rw [nI_1]
          by_cases c : fl < g + 1
          · rw [if_pos ((nI_ltI (by omega) (by omega)).mpr c)]
            congr 1
            omega
          · rw [if_neg (by rw [nI_ltI (by omega) (by omega)]; exact c)]
            congr 1
            omega
        have hblk := fun h => blk_add (used := usedS S) (g := g) (h := h) hpl
        obtain ⟨s2, r1, r2, r3, r4⟩ := hrec (pre ++ [g]) (max fl (g + 1)) A (up st 62 g (nI (blk (mems (usedS S)) pre g ||| 2 ^ (mems (usedS S)).getD pre.length 0))) (by rw [List.length_append, List.length_singleton]; omega) (by omega) (by
          intro h
          rw [hblk h]
          by_cases c : h = g
          · rw [if_pos c]
            constructor
            · intro _; omega
            · intro _
              have := Nat.two_pow_pos ((mems (usedS S)).getD pre.length 0)
              have hle : 2 ^ (mems (usedS S)).getD pre.length 0 ≤ blk (mems (usedS S)) pre h ||| 2 ^ (mems (usedS S)).getD pre.length 0 := Nat.right_le_or
              omega
          · rw [if_neg c, hR h]
            omega) hAle hP.up62 hD.up62 hA.up62 (by
          intro h hh
          rw [up_row, if_pos rfl, upd_app, hblk h]
          by_cases c : h = g
          · rw [if_pos c, if_pos c, c]
          · rw [if_neg c, if_neg c]; exact h62 h hh)
        rw [List.length_append, List.length_singleton] at r1
        rw [hmax, nI_1, r1, bs_s, ck_in hg3 (by decide), ck_in hg3 (by decide), lt_eq]
        have s62 : ∀ h, h < 3 → s2 62 h = if h = g then nI (blk (mems (usedS S)) pre g ||| 2 ^ (mems (usedS S)).getD pre.length 0) else nI (blk (mems (usedS S)) pre h) := by
          intro h hh
          rw [r3.2.2.1 h hh, up_row, if_pos rfl, upd_app]
          by_cases c : h = g
          · rw [if_pos c, if_pos c]
          · rw [if_neg c, if_neg c]; exact h62 h hh
        have hcl := bclr _ bl1 _ hv7 hbo
        rw [s62 g hg3, if_pos rfl, hcl, lt_eq, nI_1]
        have hc3 : CFr mode st (up s2 62 g (nI (blk (mems (usedS S)) pre g))) := by
          refine ⟨fun q hq => ?_, fun j j1 j2 => ?_, fun h hh => ?_, fun q hq => ?_⟩
          · have h62' : q ≠ 62 := by
              unfold cfL at hq
              simp only [List.mem_cons, List.not_mem_nil, or_false, not_or] at hq
              omega
            rw [up_row, if_neg h62', r3.1 q hq, up_row, if_neg h62']
          · rw [up_row, if_neg (by decide), r3.2.1 j j1 j2, up_row, if_neg (by decide)]
          · rw [up_row, if_pos rfl, upd_app, s62 h hh]
            by_cases c : h = g
            · rw [if_pos c, c]; exact e62.symm
            · rw [if_neg c, if_neg c]; exact (h62 h hh).symm
          · have e60 : ∀ (s : St) (x : Int32), (up s 62 g x) (60 + mode.toNat) = s (60 + mode.toNat) := fun s x => by rw [up_row, if_neg (by cases mode <;> decide)]
            rw [e60, r3.2.2.2 q (by rw [e60]; exact hq), e60]
        obtain ⟨st', g1, g2, g3, g4⟩ := ih (g + 1) (up s2 62 g (nI (blk (mems (usedS S)) pre g))) (by omega) (by omega) r2.up62 (hD.kept hc3) (by
          rw [dvC_s, if_pos hwc, List.foldl_append, hA0]
          exact r4.up62) (by
          intro h hh
          rw [hc3.2.2.1 h hh]
          exact h62 h hh)
        exact ⟨st', g1, g2, hc3.trans g3, g4⟩
      · rw [if_pos ((nI_leI (by omega) (by omega)).mpr (by omega)), lt_eq, nI_1]
        refine ih (g + 1) st (by omega) (by omega) hP hD ?_ h62
        rw [dvC_s, if_neg hwc, List.append_nil]
        exact hA
theorem divX {S : Sn} {mode : Bool} {N w r : Nat} (hN : 129 ≤ N) (hS : SnOk S) (hr1 : 1 ≤ r) (hr3 : r ≤ 3) (hw : w ≤ 8) : ∀ (k dep : Nat), k < dep → DRec S mode N w r k dep := by
  have hn := mems_len (usedS S)
  intro k
  induction k with
  | zero =>
    intro dep hd pre fl a st hk hfl hR ha hP hD hA h62
    obtain ⟨dep', rfl⟩ : ∃ dep', dep = dep' + 1 := ⟨dep - 1, by omega⟩
    have hB : BlO S (fun g => blk (mems (usedS S)) pre g) fl := by
      refine ⟨by omega, fun g hg => ?_, fun g h hg hh e => blk_dis (by omega) ((hR g).mpr hg) e⟩
      have := blk_facts (used := usedS S) (g := g) (pre := pre) (by omega)
      exact ⟨(hR g).mpr hg, this.1, this.2⟩
    obtain ⟨s1, c1, c2, c3, c4, c5⟩ := cmpX (mode := mode) hN hS hB ha hP hA.1 (fun i hi => h62 i (by omega))
    refine ⟨s1, ?_, c2, c3, ?_⟩
    · change FB_X3_divide N (F_X3_divide N dep') (nI pre.length) (nI fl) st = _
      unfold FB_X3_divide
      rw [hD.1, if_neg (by rw [nI_ltI (by omega) (by omega)]; omega), c1]
      rfl
    · rw [show dvs (mems (usedS S)) w r 0 pre fl = [pre] from rfl, List.foldl_cons, List.foldl_nil]
      rw [leafC (by omega) hR] at c4 c5
      unfold fB
      by_cases c : costAsg S mode pre < a.1
      · rw [if_pos c]
        obtain ⟨d1, d2, d3, d4⟩ := c4 c
        refine ⟨d1, fun asg hasg => ?_⟩
        cases hasg
        exact ⟨by omega, fl, d2, by omega, hR, fun g hg => by rw [d3 g hg]; exact h62 g hg, d4⟩
      · rw [if_neg c]
        obtain ⟨d1, d2⟩ := c5 (by omega)
        refine ⟨by rw [d1]; exact hA.1, fun asg hasg => ?_⟩
        obtain ⟨q1, fl', q2, q3, q4, q5, q6⟩ := hA.2 asg hasg
        exact ⟨q1, fl', by rw [d1]; exact q2, q3, q4, by rw [d2]; exact q5, fun g hg => by rw [c3.2.2.2 _ (q6 g hg)]; exact q6 g hg⟩
  | succ k ih =>
    intro dep hd pre fl a st hk hfl hR ha hP hD hA h62
    obtain ⟨dep', rfl⟩ : ∃ dep', dep = dep' + 1 := ⟨dep - 1, by omega⟩
    have hpl : pre.length < (mems (usedS S)).length := by omega
    have hv7 := mems_lt hpl
    obtain ⟨st', g1, g2, g3, g4⟩ := div_lp hS hr1 hr3 hw (ih dep' (by omega)) hk hfl hR ha (min (fl + 1) r) rfl N 0 st (by omega) (by omega) hP hD hA h62
    refine ⟨st', ?_, g2, g3, g4⟩
    change FB_X3_divide N (F_X3_divide N dep') (nI pre.length) (nI fl) st = _
    unfold FB_X3_divide
    have hmin : (if nI r < nI fl + 1 then nI r else nI fl + 1) = nI (min (fl + 1) r) := by
      rw [nI_1]
      by_cases c : r < fl + 1
      · rw [if_pos ((nI_ltI (by omega) (by omega)).mpr c)]
        congr 1
        omega
      · rw [if_neg (by rw [nI_ltI (by omega) (by omega)]; exact c)]
        congr 1
        omega
    rw [hD.1, if_pos ((nI_ltI (by omega) (by omega)).mpr hpl), ck_in (by omega) (by decide), nI_clamp (by omega), hD.2.2.2 _ hpl, shl1 _ (by omega), lt_eq, hD.2.2.1, hmin, lt_eq, lt_eq]
    exact g1
