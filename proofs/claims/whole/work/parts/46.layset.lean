theorem py_pg {S : Sn} {fr : Nat → Nat → Nat} {mem : Nat → Bool} {mode : Bool} : ∀ k a, py (pg S) fr mem mode k a = py S fr mem mode k a := by
  intro k
  induction k with
  | zero => intro a; rfl
  | succ k ih =>
    intro a
    rw [py_ext, py_ext]
    have e : ∀ l, ext fr mem l (py (pg S) fr mem mode k) a = ext fr mem l (py S fr mem mode k) a := fun l => by
      unfold ext
      rw [ih]
    rw [e, e]
    rfl
theorem costRow_pg {S : Sn} {set : Nat} {mode : Bool} (row : List Nat) : costRow (pg S) set mode row = costRow S set mode row := py_pg _ _
theorem mems_nodup (set : Nat) : (mems set).Nodup := List.Pairwise.filter _ List.nodup_range
theorem mems_mem {set v : Nat} : v ∈ mems set ↔ v < 7 ∧ set.testBit v = true := by
  unfold mems
  rw [List.mem_filter, List.mem_range]
theorem mems_lt {set k : Nat} (hk : k < (mems set).length) : (mems set).getD k 0 < 7 := (mems_mem.mp (getD_mem hk)).1
theorem mems_bit {set k : Nat} (hk : k < (mems set).length) : set.testBit ((mems set).getD k 0) = true := (mems_mem.mp (getD_mem hk)).2
theorem nodup_inj {l : List Nat} (h : l.Nodup) {i j : Nat} (hi : i < l.length) (hj : j < l.length) (e : l.getD i 0 = l.getD j 0) : i = j := by
  rw [List.getD_eq_getElem?_getD, List.getD_eq_getElem?_getD, List.getElem?_eq_getElem hi, List.getElem?_eq_getElem hj] at e
  exact (List.getElem_inj h).mp e
theorem mems_inj {set i j : Nat} (hi : i < (mems set).length) (hj : j < (mems set).length) (e : (mems set).getD i 0 = (mems set).getD j 0) : i = j := nodup_inj (mems_nodup set) hi hj e
theorem idx_getD {l : List Nat} {v : Nat} (h : v ∈ l) : l.idxOf v < l.length ∧ l.getD (l.idxOf v) 0 = v := by
  have h1 := List.idxOf_lt_length_of_mem h
  refine ⟨h1, ?_⟩
  rw [List.getD_eq_getElem?_getD, List.getElem?_eq_getElem h1]
  exact List.getElem_idxOf h1
theorem getD_a1 {l : List Nat} {v k : Nat} (h : k < l.length) : (l ++ [v]).getD k 0 = l.getD k 0 := by rw [List.getD_eq_getElem?_getD, List.getD_eq_getElem?_getD, List.getElem?_append_left h]
theorem getD_a2 {l : List Nat} {v : Nat} : (l ++ [v]).getD l.length 0 = v := by
  rw [List.getD_eq_getElem?_getD, List.getElem?_append_right (Nat.le_refl _)]
  simp
def msK (set v : Nat) : List Nat := (List.range v).filter (fun u => set.testBit u)
theorem msK_s (set v : Nat) : msK set (v + 1) = if set.testBit v then msK set v ++ [v] else msK set v := by
  unfold msK
  rw [List.range_succ, List.filter_append]
  cases h : set.testBit v <;> simp [h]
theorem msK_len (set v : Nat) : (msK set v).length ≤ v := by
  have := List.length_filter_le (fun u => set.testBit u) (List.range v)
  rw [List.length_range] at this
  exact this
theorem upr_sw {st : St} {a b i : Nat} {g h : Nat → Int32} {x : Int32} (hne : a ≠ b) : up (upr (upr st a g) b h) a i x = upr (upr st a (upd g i x)) b h := by
  funext q
  simp only [up_row, upr_app]
  by_cases q1 : q = a
  · subst q1; simp [hne]
  · simp [q1]
theorem lsA_lp {st : St} {set : Nat} (hs : set < 128) (K : Int32 → St → Option St) : ∀ (m v : Nat) (g h : Nat → Int32), v ≤ 7 → 7 - v < m → (∀ k, k < (msK set v).length → g k = nI ((msK set v).getD k 0) ∧ h k = nI k) → ∃ g' h' : Nat → Int32, lp_X8_laySet_5 (nI set) K m (nI (msK set v).length) (nI v) (upr (upr st 84 g) 85 h) = K (nI (mems set).length) (upr (upr st 84 g') 85 h') ∧ ∀ k, k < (mems set).length → g' k = nI ((mems set).getD k 0) ∧ h' k = nI k := by
  intro m
  induction m with
  | zero => intro v g h h1 h2; omega
  | succ m ih =>
    intro v g h h1 h2 h3
    change ∃ g' h' : Nat → Int32, lpB_X8_laySet_5 (nI set) K (lp_X8_laySet_5 (nI set) K m) _ (nI v) (upr (upr st 84 g) 85 h) = _ ∧ _
    unfold lpB_X8_laySet_5
    by_cases hv : v = 7
    · subst hv
      rw [if_pos (by decide)]
      exact ⟨g, h, rfl, h3⟩
    · rw [if_neg (by rw [L7]; exact nI_ge (by omega) (by decide)), hasM (by omega) (by omega), bs_s]
      have hl := msK_len set v
      have hi := ih (v + 1)
      rw [msK_s] at hi
      cases hb : set.testBit v with
      | false =>
        rw [if_pos (by rfl), lt_eq, nI_1]
        rw [if_neg (by rw [hb]; decide)] at hi
        exact hi g h (by omega) (by omega) h3
      | true =>
        rw [if_neg (by decide)]
        rw [if_pos hb, List.length_append, List.length_singleton] at hi
        simp (disch := omega) only [lt_eq, ck_in, nI_clamp, nI_1, upr_sw, up_upr]
        refine hi _ _ (by omega) (by omega) ?_
        intro k hk
        rw [upd_app, upd_app]
        by_cases e : k = (msK set v).length
        · rw [if_pos e, if_pos e, e]
          refine ⟨?_, rfl⟩
          exact congrArg nI getD_a2.symm
        · rw [if_neg e, if_neg e]
          have hk2 : k < (msK set v).length := by omega
          rw [getD_a1 hk2]
          exact h3 k hk2
/-- cells by members -/
theorem lsB_lp {st : St} {set n : Nat} {f : Nat → Nat} (hl : (mems set).length = n) (hn : n ≤ 7) (h84 : ∀ k, k < n → st 84 k = nI ((mems set).getD k 0)) (h85 : ∀ k, k < n → st 85 k = nI (f k)) (K : St → Option St) : ∀ (m k : Nat) (g : Nat → Int32), k ≤ n → n - k < m → (∀ j, j < k → g ((mems set).getD j 0) = nI (f j)) → ∃ g' : Nat → Int32, lp_X8_laySet_74 (nI n) K m (nI k) (upr st 80 g) = K (upr st 80 g') ∧ ∀ j, j < n → g' ((mems set).getD j 0) = nI (f j) := by
  intro m
  induction m with
  | zero => intro k g h1 h2; omega
  | succ m ih =>
    intro k g h1 h2 h3
    change ∃ g' : Nat → Int32, lpB_X8_laySet_74 (nI n) K (lp_X8_laySet_74 (nI n) K m) (nI k) (upr st 80 g) = _ ∧ _
    unfold lpB_X8_laySet_74
    by_cases hk : k = n
    · subst hk
      rw [if_pos (nI_le (Nat.le_refl _) (by omega))]
      exact ⟨g, rfl, h3⟩
    · rw [if_neg (nI_ge (by omega) (by omega))]
      have hm := mems_lt (set := set) (k := k) (by omega)
      have r84 : (upr st 80 g) 84 k = nI ((mems set).getD k 0) := by rw [upr_app, if_neg (by decide)]; exact h84 k (by omega)
      have r85 : (upr st 80 g) 85 k = nI (f k) := by rw [upr_app, if_neg (by decide)]; exact h85 k (by omega)
      simp (disch := omega) only [lt_eq, ck_in, nI_clamp, nI_1, r84, r85, up_upr]
      refine ih (k + 1) _ (by omega) (by omega) ?_
      intro j hj
      rw [upd_app]
      by_cases e : j = k
      · rw [e, if_pos rfl]
      · rw [if_neg (fun q => e (mems_inj (by omega) (by omega) q))]
        exact h3 j (by omega)
theorem lsC_lp {st : St} {set n at' : Nat} {f : Nat → Nat} (hl : (mems set).length = n) (hn : n ≤ 7) (hat : at' < 256) (h84 : ∀ k, k < n → st 84 k = nI ((mems set).getD k 0)) (h85 : ∀ k, k < n → st 85 k = nI (f k)) (K : St → Option St) : ∀ (m k : Nat) (g : Nat → Int32), k ≤ n → n - k < m → (∀ j, j < k → g (7 * at' + (mems set).getD j 0) = nI (f j)) → ∃ g' : Nat → Int32, lp_X8_laySet_147 (nI n) (nI at') K m (nI k) (upr st 83 g) = K (upr st 83 g') ∧ (∀ j, j < n → g' (7 * at' + (mems set).getD j 0) = nI (f j)) ∧ ∀ i, (i < 7 * at' ∨ 7 * at' + 7 ≤ i) → g' i = g i := by
  intro m
  induction m with
  | zero => intro k g h1 h2; omega
  | succ m ih =>
    intro k g h1 h2 h3
    change ∃ g' : Nat → Int32, lpB_X8_laySet_147 (nI n) (nI at') K (lp_X8_laySet_147 (nI n) (nI at') K m) (nI k) (upr st 83 g) = _ ∧ _
    unfold lpB_X8_laySet_147
    by_cases hk : k = n
    · subst hk
      rw [if_pos (nI_le (Nat.le_refl _) (by omega))]
      exact ⟨g, rfl, h3, fun _ _ => rfl⟩
    · rw [if_neg (nI_ge (by omega) (by omega))]
      have hm := mems_lt (set := set) (k := k) (by omega)
      have r84 : (upr st 83 g) 84 k = nI ((mems set).getD k 0) := by rw [upr_app, if_neg (by decide)]; exact h84 k (by omega)
      have r85 : (upr st 83 g) 85 k = nI (f k) := by rw [upr_app, if_neg (by decide)]; exact h85 k (by omega)
      simp (disch := omega) only [lt_eq, ck_in, nI_clamp, nI_1, r84, r85, L7, pk_mul, nI_add, up_upr]
      obtain ⟨g', a1, a2, a3⟩ := ih (k + 1) (upd g (7 * at' + (mems set).getD k 0) (nI (f k))) (by omega) (by omega) (by
        intro j hj
        rw [upd_app]
        by_cases e : j = k
        · rw [e, if_pos rfl]
        · rw [if_neg (fun q => e (mems_inj (set := set) (i := j) (j := k) (by omega) (by omega) (by omega)))]
          exact h3 j (by omega))
      refine ⟨g', a1, a2, fun i hi => ?_⟩
      rw [a3 i hi, upd_app, if_neg (by omega)]
/-- what laying a set leaves as it was -/
def LFr (at' : Nat) (st st' : St) : Prop := (∀ k, k ∉ [70, 80, 81, 82, 83, 84, 85] → st' k = st k) ∧ (∀ j, j ≠ 12 → st' 70 j = st 70 j) ∧ (∀ i, i ≠ at' → st' 82 i = st 82 i) ∧ ∀ i, (i < 7 * at' ∨ 7 * at' + 7 ≤ i) → st' 83 i = st 83 i
theorem LFr.trans {a : Nat} {x y z : St} (h1 : LFr a x y) (h2 : LFr a y z) : LFr a x z := ⟨fun k hk => by rw [h2.1 k hk, h1.1 k hk], fun j hj => by rw [h2.2.1 j hj, h1.2.1 j hj], fun i hi => by rw [h2.2.2.1 i hi, h1.2.2.1 i hi], fun i hi => by rw [h2.2.2.2 i hi, h1.2.2.2 i hi]⟩
theorem LFr.mod {a : Nat} {S : Sn} {x y : St} (h : LFr a x y) (hm : ModRep S x) : ModRep S y := hm.kept (h.2.1 0 (by decide)) (h.1 _ (by decide)) (h.1 _ (by decide)) (h.1 _ (by decide)) (h.1 _ (by decide)) (h.1 _ (by decide)) (h.1 _ (by decide)) (h.1 _ (by decide))
def accR (set at' : Nat) (acc : Option (Nat × List Nat)) (st : St) : Prop := match acc with
  | none => st 82 at' = -6
  | some q => q.1 ≤ 30 ∧ st 82 at' = nI q.1 ∧ ∀ j, j < (mems set).length → st 83 (7 * at' + (mems set).getD j 0) = nI (q.2.getD j 0)
theorem cost_le {S : Sn} (hS : SnOk S) (set : Nat) (mode : Bool) (row : List Nat) : costRow S set mode row ≤ 30 := by
  have := py_le (S := S) (mem := fun v => set.testBit v) (mode := mode) (frC_le (sF S) (cellOf (mems set) row)) (sN S) 7
  have := hS.1
  unfold costRow
  omega
theorem chk_c {n : Nat} {l : List Nat} {t : List (List Nat)} (h : chk n (l :: t) = true) : (nxF n (fun i => l.getD i 0) = none ∧ t = []) ∨ ∃ f' l' t', nxF n (fun i => l.getD i 0) = some f' ∧ t = l' :: t' ∧ l' = (List.range n).map f' ∧ chk n t = true := by
  unfold chk at h
  cases hx : nxF n (fun i => l.getD i 0) with
  | none =>
    rw [hx] at h
    exact Or.inl ⟨rfl, List.isEmpty_iff.mp h⟩
  | some f' =>
    rw [hx] at h
    simp only [Bool.and_eq_true] at h
    cases t with
    | nil => simp at h
    | cons l' t' => exact Or.inr ⟨f', l', t', rfl, rfl, beq_iff_eq.mp h.1, h.2⟩
theorem laySet_1 {S : Sn} {set n at' N m : Nat} {mode : Bool} {l : List Nat} {acc : Option (Nat × List Nat)} {st : St} (hN : 129 ≤ N) (hS : SnOk S) (hset : set < 128) (hl : (mems set).length = n) (hn : n ≤ 7) (hat : at' < 256) (hrow : rowOk n l) (hM : ModRep S st) (h84 : ∀ k, k < n → st 84 k = nI ((mems set).getD k 0)) (h85 : ∀ k, k < n → st 85 k = nI (l.getD k 0)) (hacc : accR set at' acc st) : ∃ st' : St, lp_X8_laySet_66 N (nI set) (bi mode) (nI n) (nI at') (m + 1) 1 st = bd (F_X8_isNext N (nI n) st') (fun r s => lp_X8_laySet_66 N (nI set) (bi mode) (nI n) (nI at') m r s) ∧ accR set at' (fm (costRow S set mode) acc l) st' ∧ LFr at' st st' ∧ st' 84 = st 84 ∧ st' 85 = st 85 := by
  change ∃ st' : St, lpB_X8_laySet_66 N (nI set) (bi mode) (nI n) (nI at') (lp_X8_laySet_66 N (nI set) (bi mode) (nI n) (nI at') m) 1 st = _ ∧ _
  unfold lpB_X8_laySet_66
  rw [if_neg e10, lt_eq]
  generalize hself : lp_X8_laySet_66 N (nI set) (bi mode) (nI n) (nI at') m = self
  obtain ⟨g, a1, a2⟩ := lsB_lp (set := set) (f := fun k => l.getD k 0) hl hn h84 h85 (fun (s37 : St) => bd (F_X8_layPay N (nI set) (bi mode) s37) (fun (r38 : Int32) (s39 : St) => lt r38 (fun (v40 : Int32) => ck (inb (nI at') 256) (lt (fun (s41 : St) => bd (F_X8_isNext N (nI n) s41) (fun (r43 : Int32) (s44 : St) => lt r43 (fun (v45 : Int32) => self v45 s44))) (fun (j42 : St → Option (St)) => lt (ck (inb (nI at') 256) (lt (up s39 82 (nI at').toNatClampNeg v40) (fun (s47 : St) => lt (0 : Int32) (fun (v48 : Int32) => lp_X8_laySet_147 (nI n) (nI at') (fun (s51 : St) => j42 s51) N v48 s47)))) (fun (j46 : Option (St)) => (if (s39 82 (nI at').toNatClampNeg) < 0 then j46 else ck (inb (nI at') 256) ((if (s39 82 (nI at').toNatClampNeg) ≤ v40 then j42 s39 else j46))))))))) N 0 (st 80) (by omega) (by omega) (fun j hj => by omega)
  rw [upr_id, nI0] at a1
  rw [a1]
  have hM1 : ModRep S (upr st 80 g) := hM.kept (by simp [upr_app]) (by simp [upr_app]) (by simp [upr_app]) (by simp [upr_app]) (by simp [upr_app]) (by simp [upr_app]) (by simp [upr_app]) (by simp [upr_app])
  obtain ⟨gp, xp, b1, -⟩ := layPayM (N := N) (mode := mode) (set := set) (cl := cellOf (mems set) l) (by omega) hS hset hM1 (by
    intro v hv hb
    obtain ⟨i1, i2⟩ := idx_getD (mems_mem.mpr ⟨hv, hb⟩)
    rw [upr_app, if_pos rfl]
    have := a2 ((mems set).idxOf v) (by omega)
    rw [i2] at this
    refine ⟨this, ?_⟩
    have := row_lt hrow (k := (mems set).idxOf v) (by omega)
    unfold cellOf
    omega)
  rw [b1, bd_s]
  have hc := cost_le hS set mode l
  have hcr : py S (frC (sF S) (cellOf (mems set) l)) (fun v => set.testBit v) mode (sN S) 7 = costRow S set mode l := rfl
  rw [hcr]
  generalize hsP : stP (upr st 80 g) gp xp = s2
  have f2 : LFr at' st s2 := by
    rw [← hsP]
    unfold stP
    refine ⟨fun k hk => ?_, fun j hj => ?_, fun i hi => ?_, fun i hi => ?_⟩
    · simp only [List.mem_cons, List.not_mem_nil, or_false, not_or] at hk
      rw [up_row, if_neg hk.1, upr_app, if_neg hk.2.2.1, upr_app, if_neg hk.2.1]
    · simp only [up_row, upr_app, Nat.reduceEqDiff, if_false, if_true]
      rw [upd_app, if_neg hj]
    · simp only [up_row, upr_app, Nat.reduceEqDiff, if_false]
    · simp only [up_row, upr_app, Nat.reduceEqDiff, if_false]
  have g82 : s2 82 = st 82 := by rw [← hsP]; unfold stP; simp only [up_row, upr_app, Nat.reduceEqDiff, if_false]
  have g83 : s2 83 = st 83 := by rw [← hsP]; unfold stP; simp only [up_row, upr_app, Nat.reduceEqDiff, if_false]
  have g84 : s2 84 = st 84 := by rw [← hsP]; unfold stP; simp only [up_row, upr_app, Nat.reduceEqDiff, if_false]
  have g85 : s2 85 = st 85 := by rw [← hsP]; unfold stP; simp only [up_row, upr_app, Nat.reduceEqDiff, if_false]
  simp (disch := omega) only [lt_eq, ck_in, nI_clamp]
  -- it is kept
  have keep : ∃ st' : St, lp_X8_laySet_147 (nI n) (nI at') (fun (s51 : St) => bd (F_X8_isNext N (nI n) s51) (fun (r43 : Int32) (s44 : St) => self r43 s44)) N 0 (up s2 82 at' (nI (costRow S set mode l))) = bd (F_X8_isNext N (nI n) st') (fun (r43 : Int32) (s44 : St) => self r43 s44) ∧ accR set at' (some (costRow S set mode l, l)) st' ∧ LFr at' st st' ∧ st' 84 = st 84 ∧ st' 85 = st 85 := by
    generalize hs3 : up s2 82 at' (nI (costRow S set mode l)) = s3
    have k84 : s3 84 = st 84 := by rw [← hs3]; simp only [up_row, Nat.reduceEqDiff, if_false]; exact g84
    have k85 : s3 85 = st 85 := by rw [← hs3]; simp only [up_row, Nat.reduceEqDiff, if_false]; exact g85
    obtain ⟨g3, c1, c2, c3⟩ := lsC_lp (st := s3) (set := set) (at' := at') (f := fun k => l.getD k 0) hl hn hat (by rw [k84]; exact h84) (by rw [k85]; exact h85) (fun (s51 : St) => bd (F_X8_isNext N (nI n) s51) (fun (r43 : Int32) (s44 : St) => self r43 s44)) N 0 (s3 83) (by omega) (by omega) (fun j hj => by omega)
    rw [upr_id, nI0] at c1
    refine ⟨upr s3 83 g3, c1, ⟨hc, ?_, ?_⟩, ?_, ?_, ?_⟩
    · rw [upr_app, if_neg (by decide), ← hs3, up_row, if_pos rfl, upd_app, if_pos rfl]
    · intro j hj
      rw [upr_app, if_pos rfl]
      exact c2 j (by omega)
    · refine f2.trans ⟨fun k hk => ?_, fun j hj => ?_, fun i hi => ?_, fun i hi => ?_⟩
      · simp only [List.mem_cons, List.not_mem_nil, or_false, not_or] at hk
        rw [upr_app, if_neg hk.2.2.2.2.1, ← hs3, up_row, if_neg hk.2.2.2.1]
      · rw [upr_app, if_neg (by decide), ← hs3, up_row, if_neg (by decide)]
      · rw [upr_app, if_neg (by decide), ← hs3, up_row, if_pos rfl, upd_app, if_neg hi]
      · rw [upr_app, if_pos rfl, c3 i hi, ← hs3, up_row, if_neg (by decide)]
    · rw [upr_app, if_neg (by decide)]; exact k84
    · rw [upr_app, if_neg (by decide)]; exact k85
  rw [g82]
  cases acc with
  | none =>
    change st 82 at' = -6 at hacc
    rw [hacc, if_pos (by decide)]
    exact keep
  | some q =>
    obtain ⟨q1, q2, q3⟩ := hacc
    rw [q2, if_neg (nI_pos (by omega))]
    have hfm : fm (costRow S set mode) (some q) l = if costRow S set mode l < q.1 then some (costRow S set mode l, l) else some q := rfl
    rw [hfm]
    by_cases h : costRow S set mode l < q.1
    · rw [if_neg (by rw [nI_leI (by omega) (by omega)]; omega), if_pos h]
      exact keep
    · rw [if_pos ((nI_leI (by omega) (by omega)).mpr (by omega)), if_neg h]
      exact ⟨s2, rfl, ⟨q1, by rw [g82]; exact q2, by rw [g83]; exact q3⟩, f2, g84, g85⟩
theorem laySet_lp {S : Sn} {set n at' N : Nat} {mode : Bool} (hN : 129 ≤ N) (hS : SnOk S) (hset : set < 128) (hl : (mems set).length = n) (h1n : 1 ≤ n) (hn : n ≤ 7) (hat : at' < 256) : ∀ (t : List (List Nat)) (l : List Nat) (m : Nat) (acc : Option (Nat × List Nat)) (st : St), chk n (l :: t) = true → (∀ q, q ∈ l :: t → rowOk n q) → t.length + 1 < m → ModRep S st → (∀ k, k < n → st 84 k = nI ((mems set).getD k 0)) → (∀ k, k < n → st 85 k = nI (l.getD k 0)) → accR set at' acc st → ∃ st' : St, lp_X8_laySet_66 N (nI set) (bi mode) (nI n) (nI at') m 1 st = some st' ∧ accR set at' ((l :: t).foldl (fm (costRow S set mode)) acc) st' ∧ LFr at' st st' := by
  intro t
  induction t with
  | nil =>
    intro l m acc st hc hrow hm hM h84 h85 hacc
    obtain ⟨m', rfl⟩ : ∃ m', m = m' + 2 := ⟨m - 2, by omega⟩
    have hr := hrow l List.mem_cons_self
    obtain ⟨s1, a1, a2, a3, a4, a5⟩ := laySet_1 (m := m' + 1) (mode := mode) hN hS hset hl hn hat hr hM h84 h85 hacc
    rcases chk_c hc with ⟨c1, -⟩ | ⟨f', l', t', c1, c2, -⟩
    · have hx := (isNextM (N := N) (st := s1) hN h1n hn (by rw [a5]; exact h85) (fun k hk => by have := row_lt hr hk; omega)).1 c1
      rw [hx, bd_s] at a1
      refine ⟨s1, a1.trans ?_, a2, a3⟩
      change lpB_X8_laySet_66 N (nI set) (bi mode) (nI n) (nI at') (lp_X8_laySet_66 N (nI set) (bi mode) (nI n) (nI at') m') 0 s1 = some s1
      unfold lpB_X8_laySet_66
      rw [if_pos rfl]
    · cases c2
  | cons x xs ih =>
    intro l m acc st hc hrow hm hM h84 h85 hacc
    obtain ⟨m', rfl⟩ : ∃ m', m = m' + 1 := ⟨m - 1, by omega⟩
    have hr := hrow l List.mem_cons_self
    obtain ⟨s1, a1, a2, a3, a4, a5⟩ := laySet_1 (m := m') (mode := mode) hN hS hset hl hn hat hr hM h84 h85 hacc
    rcases chk_c hc with ⟨-, c2⟩ | ⟨f', l', t', c1, c2, c3, c4⟩
    · cases c2
    · cases c2
      obtain ⟨g', hx, hg⟩ := (isNextM (N := N) (st := s1) hN h1n hn (by rw [a5]; exact h85) (fun k hk => by have := row_lt hr hk; omega)).2 f' c1
      rw [hx, bd_s] at a1
      have fx : LFr at' s1 (upr s1 85 g') := by
        refine ⟨fun k hk => ?_, fun j hj => ?_, fun i hi => ?_, fun i hi => ?_⟩
        · simp only [List.mem_cons, List.not_mem_nil, or_false, not_or] at hk
          rw [upr_app, if_neg hk.2.2.2.2.2.2]
        · rw [upr_app, if_neg (by decide)]
        · rw [upr_app, if_neg (by decide)]
        · rw [upr_app, if_neg (by decide)]
      have hacc2 : accR set at' (fm (costRow S set mode) acc l) (upr s1 85 g') := by
        generalize fm (costRow S set mode) acc l = q at a2 ⊢
        cases q with
        | none =>
          show (upr s1 85 g') 82 at' = -6
          rw [upr_app, if_neg (by decide)]
          exact a2
        | some q =>
          refine ⟨a2.1, ?_, ?_⟩
          · rw [upr_app, if_neg (by decide)]; exact a2.2.1
          · rw [upr_app, if_neg (by decide)]; exact a2.2.2
      obtain ⟨st', d1, d2, d3⟩ := ih x m' (fm (costRow S set mode) acc l) (upr s1 85 g') c4 (fun q hq => hrow q (List.mem_cons_of_mem _ hq)) (by rw [List.length_cons] at hm; omega) ((a3.trans fx).mod hM) (by rw [upr_app, if_neg (by decide), a4]; exact h84) (by
        intro k hk
        rw [upr_app, if_pos rfl, hg k hk, c3, List.getD_eq_getElem?_getD, List.getElem?_map, List.getElem?_range hk]
        rfl) hacc2
      exact ⟨st', a1.trans d1, d2, (a3.trans fx).trans d3⟩
