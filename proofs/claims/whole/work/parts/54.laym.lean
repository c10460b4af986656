def SR (F set : Nat) (T : TS) (tw : Nat → Nat) (st : St) : Prop := FarR F st ∧ TRep set T st ∧ st 33 4 = nI (mems set).length ∧ (∀ j, j < (mems set).length → st 35 j = nI ((mems set).getD j 0)) ∧ ∀ c, c < (mems set).length → st 36 c = nI (tw c)
def LyF (st st' : St) : Prop := (∀ k, k ≠ 33 → k ≠ 34 → st' k = st k) ∧ ∀ j, j ≠ 5 → j ≠ 6 → st' 33 j = st 33 j
theorem LyF.trans {x y z : St} (h1 : LyF x y) (h2 : LyF y z) : LyF x z := ⟨fun k a b => by rw [h2.1 k a b, h1.1 k a b], fun j a b => by rw [h2.2 j a b, h1.2 j a b]⟩
theorem TRep.kept {set : Nat} {T : TS} {st st' : St} (h : TRep set T st) (h25 : st' 25 = st 25) (h26 : st' 26 = st 26) (h28 : st' 28 = st 28) (h29 : st' 29 = st 29) (h30 : st' 30 = st 30) : TRep set T st' := by
  unfold TRep at *
  rw [h25, h26, h28, h29, h30]
  exact h
theorem SR.kept {F set : Nat} {T : TS} {tw : Nat → Nat} {st st' : St} (h : SR F set T tw st) (hf : LyF st st') : SR F set T tw st' := by
  obtain ⟨h1, h2, h3, h4, h5⟩ := h
  refine ⟨?_, h2.kept (hf.1 _ (by decide) (by decide)) (hf.1 _ (by decide) (by decide)) (hf.1 _ (by decide) (by decide)) (hf.1 _ (by decide) (by decide)) (hf.1 _ (by decide) (by decide)), ?_, ?_, ?_⟩
  · unfold FarR at *
    rw [hf.1 27 (by decide) (by decide)]
    exact h1
  · rw [hf.2 4 (by decide) (by decide)]; exact h3
  · rw [hf.1 35 (by decide) (by decide)]; exact h4
  · rw [hf.1 36 (by decide) (by decide)]; exact h5
def DA (ms : List Nat) (a : BA) (st : St) : Prop := st 33 5 = nI a.1 ∧ ∀ row, a.2 = some row → st 33 6 = nI (pack ms row)
def TwOk (F n : Nat) (tw : Nat → Nat) : Prop := ∀ c, c < n → tw c < 128 ∧ ∀ c', (tw c).testBit c' = true → c' < c ∧ ∀ d, d < n → d ≠ c → d ≠ c' → fz F d c' = fz F d c
theorem clP_add {ms pre : List Nat} {c v : Nat} : clP ms (pre ++ [c]) v = if ms.idxOf v = pre.length then c else clP ms pre v := by
  unfold clP
  by_cases h : ms.idxOf v < pre.length
  · rw [if_neg (by omega), List.getD_eq_getElem?_getD, List.getD_eq_getElem?_getD, List.getElem?_append_left h]
  · by_cases h2 : ms.idxOf v = pre.length
    · rw [if_pos h2, h2, List.getD_eq_getElem?_getD, List.getElem?_append_right (Nat.le_refl _)]
      simp
    · rw [if_neg h2, getD7 (by rw [List.length_append, List.length_singleton]; omega), getD7 (by omega)]
theorem clP_le {set : Nat} {pre : List Nat} {n : Nat} (hp : ∀ c, c ∈ pre → c < n) (hn : n ≤ 7) (v : Nat) : clP (mems set) pre v ≤ 7 := by
  unfold clP
  by_cases h : (mems set).idxOf v < pre.length
  · have := hp _ (getD_mem h)
    rw [getD_d (e := 0) h]
    omega
  · rw [getD7 (by omega)]
    omega
def Rec (F set N : Nat) (T : TS) (tw : Nat → Nat) (k dep : Nat) : Prop := ∀ (pre : List Nat) (a : BA) (st : St), pre.length + (k + 1) = (mems set).length → preOk (mems set).length pre → a.1 < 2 ^ 20 → SR F set T tw st → (∀ v, v < 8 → st 34 v = nI (clP (mems set) pre v)) → DA (mems set) a st → ∃ st' : St, F_X1_lay N dep (nI pre.length) (nI (lor pre)) (nI (psP F T.1 (mems set) pre)) st = some st' ∧ (∀ v, v < 8 → st' 34 v = nI (clP (mems set) pre v)) ∧ DA (mems set) ((lvs (mems set).length (k + 1) pre).foldl (fB (vlP F T (mems set))) a) st' ∧ LyF st st'
theorem lay_lp {F set N k dep : Nat} {T : TS} {tw : Nat → Nat} (hN : 129 ≤ N) (hfk : fkOk T.2.1) (hlen : T.2.1.length ≤ 20) (hb : ∀ i, T.1 i ≤ 100) (htw : TwOk F (mems set).length tw) (hrec : ∀ j, k = j + 1 → Rec F set N T tw j dep) {pre : List Nat} {a : BA} (hk : pre.length + (k + 1) = (mems set).length) (hp : preOk (mems set).length pre) (ha : a.1 < 2 ^ 20) (e : Nat) (he : e ≤ (mems set).length) (ask : Bool) (hask : ask = decide (pre.length + 2 ≠ (mems set).length)) (K : St → Option St) : ∀ (m c : Nat) (st : St), c ≤ e → e - c < m → SR F set T tw st → (∀ v, v < 8 → v ≠ (mems set).getD pre.length 0 → st 34 v = nI (clP (mems set) pre v)) → DA (mems set) ((lvC (mems set).length k pre c).foldl (fB (vlP F T (mems set))) a) st → ∃ st' : St, lp_X1_lay_49 N (nI pre.length) (nI (lor pre)) (nI (psP F T.1 (mems set) pre)) (nI ((mems set).getD pre.length 0)) (nI e) (bi ask) (F_X1_lay N dep) K m (nI c) st = K st' ∧ (∀ v, v < 8 → v ≠ (mems set).getD pre.length 0 → st' 34 v = nI (clP (mems set) pre v)) ∧ DA (mems set) ((lvC (mems set).length k pre e).foldl (fB (vlP F T (mems set))) a) st' ∧ LyF st st' := by
  have hn := mems_len set
  have hpl : pre.length < (mems set).length := by omega
  have hv7 := mems_lt hpl
  have hidx := mems_idx hpl
  have hpre7 : ∀ c, c ∈ pre → c < 7 := fun c hc => by have := hp.1 c hc; omega
  have hlor := lor_lt hpre7
  intro m
  induction m with
  | zero => intro c st h1 h2; omega
  | succ m ih =>
    intro c st h1 h2 hS h34 hA
    change ∃ st' : St, lpB_X1_lay_49 N (nI pre.length) (nI (lor pre)) (nI (psP F T.1 (mems set) pre)) (nI ((mems set).getD pre.length 0)) (nI e) (bi ask) (F_X1_lay N dep) K (lp_X1_lay_49 N (nI pre.length) (nI (lor pre)) (nI (psP F T.1 (mems set) pre)) (nI ((mems set).getD pre.length 0)) (nI e) (bi ask) (F_X1_lay N dep) K m) (nI c) st = _ ∧ _
    unfold lpB_X1_lay_49
    generalize hself : lp_X1_lay_49 N (nI pre.length) (nI (lor pre)) (nI (psP F T.1 (mems set) pre)) (nI ((mems set).getD pre.length 0)) (nI e) (bi ask) (F_X1_lay N dep) K m = self at ih ⊢
    by_cases hce : c = e
    · rw [if_pos (by rw [hce]; exact nI_le (Nat.le_refl _) (by omega))]
      rw [hce] at hA
      exact ⟨st, rfl, h34, hA, fun _ _ _ => rfl, fun _ _ _ => rfl⟩
    · have hc : c < (mems set).length := by omega
      rw [if_neg (nI_ge (by omega) (by omega)), bit_s (by omega) (by omega), lor_b]
      by_cases hin : c ∈ pre
      · -- the cell is taken
        rw [decide_eq_true hin, if_neg (by decide), lt_eq, nI_1]
        refine ih (c + 1) st (by omega) (by omega) hS h34 ?_
        rw [lvC_s, if_pos (by simpa using hin), List.append_nil]
        exact hA
      · rw [decide_eq_false hin, if_pos (by rfl), ck_in (by omega) (by decide), nI_clamp (by omega), hS.2.2.2.2 c hc]
        by_cases htwc : sub (tw c) (lor pre) = true
        · rw [if_pos ((subI _ (htw c hc).1 _ hlor).mpr htwc)]
          generalize hA0 : (lvC (mems set).length k pre c).foldl (fB (vlP F T (mems set))) a = A at hA
          have hAle : A.1 < 2 ^ 20 := by
            have := (fB_le (val := vlP F T (mems set)) (lvC (mems set).length k pre c) a).1
            rw [hA0] at this
            omega
          have hp2 := hp.add hc hin
          generalize hs1 : up st 34 ((mems set).getD pre.length 0) (nI c) = s1
          have f1 : LyF st s1 := by
            rw [← hs1]
            exact ⟨fun q q1 q2 => by rw [up_row, if_neg q2], fun j _ _ => by rw [up_row, if_neg (by decide)]⟩
          have hS1 := hS.kept f1
          have h341 : ∀ v, v < 8 → s1 34 v = nI (clP (mems set) (pre ++ [c]) v) := by
            intro v hv
            rw [← hs1, up_row, if_pos rfl, upd_app, clP_add]
            by_cases ev : v = (mems set).getD pre.length 0
            · rw [if_pos ev, ev, hidx, if_pos rfl]
            · have : (mems set).idxOf v ≠ pre.length := by
                intro q
                by_cases hm : v ∈ mems set
                · have := (idx_getD hm).2
                  rw [q] at this
                  exact ev this.symm
                · rw [idx_out hm] at q
                  omega
              rw [if_neg ev, if_neg this]
              exact h34 v hv ev
          have hoff : ∀ (s' : St), (∀ v, v < 8 → s' 34 v = nI (clP (mems set) (pre ++ [c]) v)) → ∀ v, v < 8 → v ≠ (mems set).getD pre.length 0 → s' 34 v = nI (clP (mems set) pre v) := by
            intro s' hs' v hv ev
            rw [hs' v hv, clP_add, if_neg]
            intro q
            by_cases hm : v ∈ mems set
            · have := (idx_getD hm).2
              rw [q] at this
              exact ev this.symm
            · rw [idx_out hm] at q
              omega
          have hcr : CellR 34 (clP (mems set) (pre ++ [c])) s1 := by
            refine ⟨rfl, rfl, fun v hv => ⟨h341 v hv, clP_le hp2.1 (by omega) v⟩, ?_⟩
            unfold clP
            rw [idx_out (fun q => by have := (mems_mem.mp q).1; omega)]
            exact getD7 (by rw [List.length_append, List.length_singleton]; omega)
          have hpc := pcX (N := N) (v := (mems set).getD pre.length 0) (by omega) hcr hS1.1 hS1.2.1.2.1 hv7
          have hfc := fkX (N := N) (by omega) hcr hS1.1 hS1.2.1 hfk hlen
          have hps := psP_add (F := F) (c := c) (b := T.1) hpl
          have hpb := psP_bd (F := F) (set := set) (b := T.1) (pre := pre ++ [c]) hb (by rw [List.length_append, List.length_singleton]; omega)
          have hfb := fcF_le (F := F) (cl := clP (mems set) (pre ++ [c])) (fk := T.2.1)
          change F_X6_pairCost N (nI ((mems set).getD pre.length 0)) 34 s1 = some (nI (pcF T.1 (frL F (clP (mems set) (pre ++ [c]))) ((mems set).getD pre.length 0))) at hpc
          change F_X6_forkCost N 34 s1 = some (nI (fcF T.2.1 (frL F (clP (mems set) (pre ++ [c]))))) at hfc
          have h335 : s1 33 5 = nI A.1 := by rw [← hs1, up_row, if_neg (by decide)]; exact hA.1
          have h336 : ∀ row, A.2 = some row → s1 33 6 = nI (pack (mems set) row) := by rw [← hs1, up_row, if_neg (by decide)]; exact hA.2
          have h334 := hS1.2.2.1
          rw [ck_in (by omega) (by decide), nI_clamp (by omega), lt_eq, hs1, hpc, bs_s]
          simp only [lt_eq, nI_add, nI_1, h335, h334, hfc, bs_s]
          rw [← hps]
          -- going on with the next cell
          have next : ∀ s' : St, LyF s1 s' → (∀ v, v < 8 → s' 34 v = nI (clP (mems set) (pre ++ [c]) v)) → DA (mems set) ((lvs (mems set).length k (pre ++ [c])).foldl (fB (vlP F T (mems set))) A) s' → ∃ st' : St, self (nI (c + 1)) s' = K st' ∧ (∀ v, v < 8 → v ≠ (mems set).getD pre.length 0 → st' 34 v = nI (clP (mems set) pre v)) ∧ DA (mems set) ((lvC (mems set).length k pre e).foldl (fB (vlP F T (mems set))) a) st' ∧ LyF st st' := by
            intro s' fs hs' hd
            have f12 := f1.trans fs
            obtain ⟨st', g1, g2, g3, g4⟩ := ih (c + 1) s' (by omega) (by omega) (hS.kept f12) (hoff s' hs') (by
              rw [lvC_s, if_neg (by simpa using hin), List.foldl_append, hA0]
              exact hd)
            exact ⟨st', g1, g2, g3, f12.trans g4⟩
          have leaf : ∀ l, l ∈ lvs (mems set).length k (pre ++ [c]) → psP F T.1 (mems set) (pre ++ [c]) ≤ vlP F T (mems set) l ∧ psP F T.1 (mems set) (pre ++ [c]) + fcF T.2.1 (frL F (clP (mems set) (pre ++ [c]))) ≤ vlP F T (mems set) l := by
            intro l hl
            obtain ⟨l1, -, -, l4⟩ := leaf_c hk hp hc hin hl
            exact vl_bound l1.1 (by rw [l1.1, List.length_append, List.length_singleton]; omega) l4
          have hno : (∀ l, l ∈ lvs (mems set).length k (pre ++ [c]) → A.1 ≤ vlP F T (mems set) l) → ∃ st' : St, self (nI (c + 1)) s1 = K st' ∧ (∀ v, v < 8 → v ≠ (mems set).getD pre.length 0 → st' 34 v = nI (clP (mems set) pre v)) ∧ DA (mems set) ((lvC (mems set).length k pre e).foldl (fB (vlP F T (mems set))) a) st' ∧ LyF st st' := by
            intro h
            refine next s1 ⟨fun _ _ _ => rfl, fun _ _ _ => rfl⟩ h341 ?_
            rw [fB_skip _ h]
            exact ⟨h335, h336⟩
          have hdeep : ∀ j, k = j + 1 → ∃ st' : St, (bs (F_X1_lay N dep (nI (pre.length + 1)) (nI (lor pre) ||| (1 : Int32) <<< (nI c &&& 31)) (nI (psP F T.1 (mems set) (pre ++ [c]))) s1) fun s41 => self (nI (c + 1)) s41) = K st' ∧ (∀ v, v < 8 → v ≠ (mems set).getD pre.length 0 → st' 34 v = nI (clP (mems set) pre v)) ∧ DA (mems set) ((lvC (mems set).length k pre e).foldl (fB (vlP F T (mems set))) a) st' ∧ LyF st st' := by
            intro j hj
            obtain ⟨s2, r1, r2, r3, r4⟩ := hrec j hj (pre ++ [c]) A s1 (by rw [List.length_append, List.length_singleton]; omega) hp2 hAle hS1 h341 ⟨h335, h336⟩
            rw [List.length_append, List.length_singleton, lor_add] at r1
            rw [shl1 c (by omega), nI_or, r1, bs_s]
            rw [← hj] at r3
            exact next s2 r4 r2 r3
          by_cases c1 : A.1 ≤ psP F T.1 (mems set) (pre ++ [c])
          · have i1 : nI A.1 ≤ nI (psP F T.1 (mems set) (pre ++ [c])) := (nI_leI (by omega) (by omega)).mpr c1
            simp only [i1, if_true]
            exact hno (fun l hl => by have := (leaf l hl).1; omega)
          · have i1 : ¬ nI A.1 ≤ nI (psP F T.1 (mems set) (pre ++ [c])) := by rw [nI_leI (by omega) (by omega)]; exact c1
            cases ask with
            | false =>
              have hk1 : ¬ pre.length + 2 ≠ (mems set).length := of_decide_eq_false hask.symm
              have hnd : ¬ nI (mems set).length ≤ nI (pre.length + 1) := by rw [nI_leI (by omega) (by omega)]; omega
              have hbf : bi false = 0 := rfl
              simp only [i1, if_false, hbf, if_true, hnd]
              exact hdeep (k - 1) (by omega)
            | true =>
              have hk1 : pre.length + 2 ≠ (mems set).length := of_decide_eq_true hask.symm
              have hbt : ¬ bi true = 0 := by decide
              by_cases c2 : A.1 ≤ psP F T.1 (mems set) (pre ++ [c]) + fcF T.2.1 (frL F (clP (mems set) (pre ++ [c])))
              · have i2 : nI A.1 ≤ nI (psP F T.1 (mems set) (pre ++ [c]) + fcF T.2.1 (frL F (clP (mems set) (pre ++ [c])))) := (nI_leI (by omega) (by omega)).mpr c2
                simp only [i1, i2, if_false, hbt, if_true]
                exact hno (fun l hl => by have := (leaf l hl).2; omega)
              · have i2 : ¬ nI A.1 ≤ nI (psP F T.1 (mems set) (pre ++ [c]) + fcF T.2.1 (frL F (clP (mems set) (pre ++ [c])))) := by rw [nI_leI (by omega) (by omega)]; exact c2
                by_cases hk0 : k = 0
                · have hnd : nI (mems set).length ≤ nI (pre.length + 1) := (nI_leI (by omega) (by omega)).mpr (by omega)
                  simp only [i1, i2, if_false, hbt, hnd, if_true]
                  have hrow : rowOk (mems set).length (pre ++ [c]) := ⟨by rw [List.length_append, List.length_singleton]; omega, hp2.1⟩
                  generalize hs2 : up s1 33 5 (nI (psP F T.1 (mems set) (pre ++ [c]) + fcF T.2.1 (frL F (clP (mems set) (pre ++ [c]))))) = s2
                  have hkx := keepX (N := N) (st := s2) (set := set) (row := pre ++ [c]) hN (by rw [← hs2, up_row, if_pos rfl, upd_app, if_neg (by decide)]; exact h334) (by rw [← hs2, up_row, if_neg (by decide)]; exact hS1.2.2.2.1) (by rw [← hs2, up_row, if_neg (by decide)]; exact h341) hrow
                  rw [hkx, bs_s]
                  refine next _ ?_ ?_ ?_
                  · rw [← hs2]
                    exact ⟨fun q q1 q2 => by rw [up_row, if_neg q1, up_row, if_neg q1], fun j j1 j2 => by rw [up_row, if_pos rfl, upd_app, if_neg j2, up_row, if_pos rfl, upd_app, if_neg j1]⟩
                  · rw [← hs2, up_row, if_neg (by decide), up_row, if_neg (by decide)]
                    exact h341
                  · rw [hk0, show lvs (mems set).length 0 (pre ++ [c]) = [pre ++ [c]] from rfl, List.foldl_cons, List.foldl_nil]
                    have hv : vlP F T (mems set) (pre ++ [c]) = psP F T.1 (mems set) (pre ++ [c]) + fcF T.2.1 (frL F (clP (mems set) (pre ++ [c]))) := rfl
                    unfold fB
                    rw [hv, if_pos (by omega)]
                    refine ⟨?_, ?_⟩
                    · rw [up_row, if_pos rfl, upd_app, if_neg (by decide), ← hs2, up_row, if_pos rfl, upd_app, if_pos rfl]
                    · intro row hr
                      cases hr
                      rw [up_row, if_pos rfl, upd_app, if_pos rfl]
                · have hnd : ¬ nI (mems set).length ≤ nI (pre.length + 1) := by rw [nI_leI (by omega) (by omega)]; omega
                  simp only [i1, i2, if_false, hbt, hnd]
                  exact hdeep (k - 1) (by omega)
        · rw [if_neg (fun q => htwc ((subI _ (htw c hc).1 _ hlor).mp q)), lt_eq, nI_1]
          have : ∃ c', c' < 7 ∧ (tw c).testBit c' = true ∧ (lor pre).testBit c' = false := by
            apply Classical.byContradiction
            intro hne
            refine htwc (sub_iff.mpr (fun v hv hbt => ?_))
            cases hq : (lor pre).testBit v with
            | true => rfl
            | false => exact absurd ⟨v, hv, hbt, hq⟩ hne
          obtain ⟨c', -, t1, t2⟩ := this
          obtain ⟨t3, t4⟩ := (htw c hc).2 c' t1
          rw [lor_b] at t2
          refine ih (c + 1) st (by omega) (by omega) hS h34 ?_
          rw [twin_skip (by omega) hk hp hc hin t3 (of_decide_eq_false t2) t4]
          exact hA
theorem layX {F set N : Nat} {T : TS} {tw : Nat → Nat} (hN : 129 ≤ N) (hfk : fkOk T.2.1) (hlen : T.2.1.length ≤ 20) (hb : ∀ i, T.1 i ≤ 100) (htw : TwOk F (mems set).length tw) : ∀ (k dep : Nat), k < dep → Rec F set N T tw k dep := by
  have hn := mems_len set
  intro k
  induction k with
  | zero | succ k ih =>
    intro dep hd pre a st hk hp ha hS h34 hA
    obtain ⟨dep', rfl⟩ : ∃ dep', dep = dep' + 1 := ⟨dep - 1, by omega⟩
    have hpl : pre.length < (mems set).length := by omega
    have hv7 := mems_lt hpl
    have hidx := mems_idx hpl
    have hfin : ∀ s' : St, (∀ v, v < 8 → v ≠ (mems set).getD pre.length 0 → s' 34 v = nI (clP (mems set) pre v)) → ∀ v, v < 8 → (up s' 34 ((mems set).getD pre.length 0) 7) 34 v = nI (clP (mems set) pre v) := by
      intro s' hs' v hv
      rw [up_row, if_pos rfl, upd_app]
      by_cases ev : v = (mems set).getD pre.length 0
      · rw [if_pos ev, ev]
        unfold clP
        rw [hidx, getD7 (Nat.le_refl _)]
        rfl
      · rw [if_neg ev]
        exact hs' v hv ev
    have hF : ∀ (e : Nat) (ask : Bool), (if nI pre.length = 0 then nI e = nI (((mems set).length + 1) / 2) else nI e = nI (mems set).length) → ask = decide (pre.length + 2 ≠ (mems set).length) → F_X1_lay N (dep' + 1) (nI pre.length) (nI (lor pre)) (nI (psP F T.1 (mems set) pre)) st = lp_X1_lay_49 N (nI pre.length) (nI (lor pre)) (nI (psP F T.1 (mems set) pre)) (nI ((mems set).getD pre.length 0)) (nI e) (bi ask) (F_X1_lay N dep') (fun (s46 : St) => ck (inb (nI ((mems set).getD pre.length 0)) 8) (lt (up s46 34 (nI ((mems set).getD pre.length 0)).toNatClampNeg (7 : Int32)) (fun (s47 : St) => some s47))) N 0 st := by
      intro e ask he hask
      change FB_X1_lay N (F_X1_lay N dep') _ _ _ st = _
      unfold FB_X1_lay
      rw [ck_in (by omega) (by decide), nI_clamp (by omega), hS.2.2.2.1 _ hpl]
      simp only [lt_eq, hS.2.2.1]
      have e2 : nI pre.length + 2 = nI (pre.length + 2) := nI_add _ 2
      have ed : (nI (mems set).length + 1) / 2 = nI (((mems set).length + 1) / 2) := by
        rw [nI_1]
        exact pk_div (d := 2) (by omega) (by decide) (by decide)
      have ec : ∀ x : Option St, ck (decide ((2 : Int32) ≠ 0)) x = x := fun x => rfl
      rw [e2, ed, ec]
      have h2 : (nI (pre.length + 2) = nI (mems set).length) ↔ pre.length + 2 = (mems set).length := nI_eq (by omega) (by omega)
      rw [hask]
      by_cases c2 : pre.length + 2 = (mems set).length
      · have d2 : decide (pre.length + 2 ≠ (mems set).length) = false := by simp [c2]
        rw [d2]
        simp only [h2, c2, if_true]
        by_cases c0 : nI pre.length = 0
        · rw [if_pos c0] at he ⊢
          rw [← he]
          rfl
        · rw [if_neg c0] at he ⊢
          rw [← he]
          rfl
      · have d2 : decide (pre.length + 2 ≠ (mems set).length) = true := by simp [c2]
        rw [d2]
        simp only [h2, c2, if_false]
        by_cases c0 : nI pre.length = 0
        · rw [if_pos c0] at he ⊢
          rw [← he]
          rfl
        · rw [if_neg c0] at he ⊢
          rw [← he]
          rfl
    have hloop := fun (hrec) (e : Nat) (he : e ≤ (mems set).length) => lay_lp (dep := dep') hN hfk hlen hb htw hrec hk hp ha e he (decide (pre.length + 2 ≠ (mems set).length)) rfl (fun (s46 : St) => ck (inb (nI ((mems set).getD pre.length 0)) 8) (lt (up s46 34 (nI ((mems set).getD pre.length 0)).toNatClampNeg (7 : Int32)) (fun (s47 : St) => some s47))) N 0 st (by omega) (by omega) hS (fun v hv _ => h34 v hv) hA
    have hrec' := hloop (by
      intro j hj
      first
        | exact ih dep' (by omega) ▸ (by omega)
        | (exfalso; omega)
        | (obtain rfl : j = k := by omega
           exact ih dep' (by omega)))
    by_cases h0 : pre.length = 0
    · obtain rfl : pre = [] := List.eq_nil_of_length_eq_zero h0
      obtain ⟨s1, g1, g2, g3, g4⟩ := hrec' (((mems set).length + 1) / 2) (by omega)
      rw [hF (((mems set).length + 1) / 2) _ (by rw [if_pos (show nI ([] : List Nat).length = 0 from rfl)]) rfl]
      refine ⟨up s1 34 ((mems set).getD [].length 0) 7, ?_, hfin s1 g2, ?_, ?_⟩
      · rw [← nI0, g1, ck_in (by omega) (by decide), nI_clamp (by omega), lt_eq]
      · have hm := mirror_skip (F := F) (set := set) (T := T) (a := a) (n := (mems set).length) (by omega) (by simpa using hk) ((mems set).length - ((mems set).length + 1) / 2) (((mems set).length + 1) / 2) (Nat.le_refl _) (by omega)
        rw [← hm] at g3
        unfold DA at *
        rw [up_row, if_neg (by decide)]
        exact g3
      · refine g4.trans ⟨fun q q1 q2 => by rw [up_row, if_neg q2], fun j _ _ => by rw [up_row, if_neg (by decide)]⟩
    · obtain ⟨s1, g1, g2, g3, g4⟩ := hrec' (mems set).length (Nat.le_refl _)
      rw [hF (mems set).length _ (by rw [if_neg (nI_ne0 (by omega) (by omega))]) rfl]
      refine ⟨up s1 34 ((mems set).getD pre.length 0) 7, ?_, hfin s1 g2, ?_, ?_⟩
      · rw [← nI0, g1, ck_in (by omega) (by decide), nI_clamp (by omega), lt_eq]
      · unfold DA at *
        rw [up_row, if_neg (by decide)]
        exact g3
      · refine g4.trans ⟨fun q q1 q2 => by rw [up_row, if_neg q2], fun j _ _ => by rw [up_row, if_neg (by decide)]⟩
