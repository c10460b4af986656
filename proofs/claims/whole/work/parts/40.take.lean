theorem take_lp {w : Nat → Nat} (hw : ∀ i, w i ≤ 60) {N : Nat} (hN : 129 ≤ N) : ∀ (f m k : Nat) (G : GS) (st : St), f < m → k + f ≤ 49 → nz G.1 ≤ f → WG w G → GX w G st → ∃ st' : St, lp_X0_take_74 N m (oI (gst G.1 49)) (nI k) st = some st' ∧ GX w (gRun f G) st' ∧ Fr6 st st' := by
  intro f
  induction f with
  | zero =>
    intro m k G st hm hk hz hW h
    obtain ⟨m', rfl⟩ : ∃ m', m = m' + 1 := ⟨m - 1, by omega⟩
    refine ⟨st, ?_, h, fun _ _ _ _ _ _ => rfl⟩
    have hn : gst G.1 49 = none := by
      cases hg : gst G.1 49 with
      | none => rfl
      | some p =>
        obtain ⟨p1, p2⟩ := gst_s 49 p hg
        have := nz_pos p1 p2
        omega
    rw [hn]
    change lpB_X0_take_74 N (lp_X0_take_74 N m') _ _ st = _
    unfold lpB_X0_take_74
    split
    · rfl
    · rw [if_pos (by decide)]
  | succ f ih =>
    intro m k G st hm hk hz hW h
    obtain ⟨m', rfl⟩ : ∃ m', m = m' + 1 := ⟨m - 1, by omega⟩
    change ∃ st' : St, lpB_X0_take_74 N (lp_X0_take_74 N m') (oI (gst G.1 49)) (nI k) st = _ ∧ _
    unfold lpB_X0_take_74
    rw [if_neg (by rw [L49]; exact nI_ge (by omega) (by decide))]
    cases hg : gst G.1 49 with
    | none =>
      refine ⟨st, by rw [if_pos (by decide)], ?_, fun _ _ _ _ _ _ => rfl⟩
      unfold gRun
      rw [hg]
      exact h
    | some p =>
      obtain ⟨p1, p2⟩ := gst_s 49 p hg
      obtain ⟨p3, p4, p5⟩ := hW.1 p p1 p2
      have hrun : gRun (f + 1) G = gRun f (gStep G p) := by
        rw [show gRun (f + 1) G = match gst G.1 49 with
          | none => G
          | some p => gRun f (gStep G p) from rfl, hg]
      rw [hrun, show oI (some p) = nI p from rfl, if_neg (nI_pos (by omega))]
      have hW' := gStep_WG p1 p4 hW
      have hz' : nz (gStep G p).1 ≤ f := by
        rw [gStep_r]
        have := nz_step p1 p2
        omega
      have hd1 := hW.2.1 (p / 7) (by omega)
      have hd2 := hW.2.1 (p % 7) (by omega)
      have hg1 := hW.2.2 (p / 7) (by omega)
      have hg2 := hW.2.2 (p % 7) (by omega)
      have a7 : p / 7 < 7 := by omega
      have b7 : p % 7 < 7 := by omega
      simp only [ck7, lt_eq]
      rw [rem7 p1, div7 p1]
      simp (disch := omega) only [ck_in, nI_clamp, nI_1, h.2.2.1, h.2.2.2.1]
      -- going on, with a state that holds the next G
      have go : ∀ s : St, GX w (gStep G p) (up s 67 p 0) → Fr6 st s → ∃ st' : St, (bs (F_X0_greatest N (up s 67 p 0)) fun r42 => lp_X0_take_74 N m' r42 (nI (k + 1)) (up s 67 p 0)) = some st' ∧ GX w (gRun f (gStep G p)) st' ∧ Fr6 st st' := by
        intro s hs hfr
        rw [greatX (r := (gStep G p).1) hN hs.1 (by
          intro i hi
          by_cases hq : 0 < (gStep G p).1 i
          · have := (hW'.1 i hi hq).1
            have := hw i
            omega
          · omega), bs_s]
        obtain ⟨st', s1, s2, s3⟩ := ih m' (k + 1) (gStep G p) (up s 67 p 0) (by omega) (by omega) hz' hW' hs
        refine ⟨st', s1, s2, fun q q1 q2 q3 q4 q5 => ?_⟩
        rw [s3 q q1 q2 q3 q4 q5, up_row, if_neg q3]
        exact hfr q q1 q2 q3 q4 q5
      have r67 : ∀ s : St, s 67 = st 67 → ∀ i, i < 49 → (up s 67 p 0) 67 i = nI ((fun i => if i = p then 0 else G.1 i) i) := by
        intro s hs i hi
        simp only [up_row, if_true]
        rw [upd_app, hs]
        by_cases e : i = p
        · rw [if_pos e, if_pos e]; rfl
        · rw [if_neg e, if_neg e]; exact h.1 i hi
      have hno : gJoin G p = false → GX w (gStep G p) (up st 67 p 0) := by
        intro hj
        have e : gStep G p = (fun i => if i = p then 0 else G.1 i, G.2) := by
          unfold gStep
          rw [if_neg (by rw [hj]; decide)]
        rw [e]
        refine ⟨r67 st rfl, ?_, ?_, ?_, ?_, ?_⟩
        · simp only [up_row, Nat.reduceEqDiff, if_false]; exact h.2.1
        · simp only [up_row, Nat.reduceEqDiff, if_false]; exact h.2.2.1
        · simp only [up_row, Nat.reduceEqDiff, if_false]; exact h.2.2.2.1
        · simp only [up_row, Nat.reduceEqDiff, if_false]; exact h.2.2.2.2.1
        · simp only [up_row, Nat.reduceEqDiff, if_false]; exact h.2.2.2.2.2
      have fr0 : Fr6 st st := fun _ _ _ _ _ _ => rfl
      by_cases c1 : G.2.2.1 (p / 7) < 2
      · rw [if_neg (by rw [L2, nI_leI (by omega) (by omega)]; omega)]
        by_cases c2 : G.2.2.1 (p % 7) < 2
        · rw [if_neg (by rw [L2, nI_leI (by omega) (by omega)]; omega)]
          by_cases c3 : G.2.2.2.1 (p / 7) = G.2.2.2.1 (p % 7)
          · rw [if_pos (by rw [c3])]
            exact go st (hno (by unfold gJoin; simp [c3])) fr0
          · rw [if_neg (by rw [nI_eq (by omega) (by omega)]; exact c3)]
            have hj : gJoin G p = true := by unfold gJoin; simp [c1, c2, c3]
            obtain ⟨sj, j1, j2, j3, j4, j5, j6, j7, j8⟩ := joinX hN p1 p4 hW h c3
            rw [j1, bs_s]
            have e6 : sj 65 5 - sj 67 p = nI (lf w (fun i => decide (i = p) || G.2.1 i)) := by
              rw [j6, j7, h.2.2.2.2.2, h.1 p p1, p3, ← lf_step p1 p4 p5, pk_sub (Nat.le_add_left _ _), Nat.add_sub_cancel]
            rw [e6]
            refine go _ ?_ ?_
            · have e : gStep G p = (fun i => if i = p then 0 else G.1 i, fun i => decide (i = p) || G.2.1 i, gDeg G.2.2.1 (p / 7) (p % 7), gGrp G.2.2.2.1 (p / 7) (p % 7), G.2.2.2.2 + 1) := by
                unfold gStep
                rw [if_pos hj]
              rw [e]
              refine ⟨r67 _ (by simp only [up_row, Nat.reduceEqDiff, if_false]; exact j7), ?_, ?_, ?_, ?_, ?_⟩
              · simp only [up_row, Nat.reduceEqDiff, if_false]; exact j2
              · simp only [up_row, Nat.reduceEqDiff, if_false]; exact j3
              · simp only [up_row, Nat.reduceEqDiff, if_false]; exact j4
              · simp only [up_row, Nat.reduceEqDiff, if_false, if_true]
                rw [upd_app, if_neg (by decide)]
                exact j5
              · simp only [up_row, Nat.reduceEqDiff, if_false, if_true]
                rw [upd_app, if_pos rfl]
            · intro q q1 q2 q3 q4 q5
              rw [up_row, if_neg q1]
              exact j8 q q1 q2 q3 q4 q5
        · rw [if_pos (by rw [L2, nI_leI (by omega) (by omega)]; omega)]
          exact go st (hno (by unfold gJoin; simp [c2])) fr0
      · rw [if_pos (by rw [L2, nI_leI (by omega) (by omega)]; omega)]
        exact go st (hno (by unfold gJoin; simp [c1])) fr0
-- load
def rW (w : Nat → Nat) (i : Nat) : Nat := if i / 7 < i % 7 then w i else 0
theorem load_in {st : St} {w : Nat → Nat} {a : Nat} (hw : ∀ i, i < 49 → st 26 i = nI (w i)) (ha : a < 7) (K : Int32 → St → Option (Int32 × St)) : ∀ (m b s : Nat) (g : Nat → Int32), a < b → b ≤ 7 → 7 - b < m → s = sumR (rW w) (a * 7 + b) → (∀ i, i < 49 → g i = nI (if i < a * 7 + b then rW w i else 0)) → ∃ g' : Nat → Int32, lp_X0_load_23 (nI a) K m (nI s) (nI b) (upr st 67 g) = K (nI (sumR (rW w) (a * 7 + 7))) (upr st 67 g') ∧ (∀ i, i < 49 → g' i = nI (if i < a * 7 + 7 then rW w i else 0)) := by
  intro m
  induction m with
  | zero => intro b s g h0 h1 h2; omega
  | succ m ih =>
    intro b s g h0 h1 h2 h3 h4
    change ∃ g' : Nat → Int32, lpB_X0_load_23 (nI a) K (lp_X0_load_23 (nI a) K m) (nI s) (nI b) (upr st 67 g) = _ ∧ _
    unfold lpB_X0_load_23
    by_cases hb : b = 7
    · subst hb
      rw [if_pos (by decide), h3]
      exact ⟨g, rfl, h4⟩
    · rw [if_neg (by rw [L7]; exact nI_ge (by omega) (by decide))]
      have r26 : ∀ g, (upr st 67 g) 26 = st 26 := fun g => by rw [upr_app, if_neg (by decide)]
      simp (disch := omega) only [lt_eq, L7, pk_mul, nI_add, ck_in, nI_clamp, nI_1, up_upr, r26, hw]
      refine ih (b + 1) _ _ (by omega) (by omega) (by omega) ?_ ?_
      · rw [h3, show a * 7 + (b + 1) = (a * 7 + b) + 1 from rfl]
        show _ = sumR (rW w) (a * 7 + b) + rW w (a * 7 + b)
        unfold rW
        rw [if_pos (show (a * 7 + b) / 7 < (a * 7 + b) % 7 by omega)]
      · intro i hi
        rw [upd_app]
        by_cases e : i = a * 7 + b
        · rw [if_pos e, if_pos (by omega), e]
          unfold rW
          rw [if_pos (show (a * 7 + b) / 7 < (a * 7 + b) % 7 by omega)]
        · rw [if_neg e, h4 i hi]
          by_cases q : i < a * 7 + b
          · rw [if_pos q, if_pos (by omega)]
          · rw [if_neg q, if_neg (by omega)]
theorem rW_z {w : Nat → Nat} {a : Nat} : ∀ (d : Nat), d ≤ a + 1 → d ≤ 7 → sumR (rW w) (a * 7 + d) = sumR (rW w) (a * 7) := by
  intro d
  induction d with
  | zero => intro _ _; rfl
  | succ d ih =>
    intro h1 h2
    rw [show a * 7 + (d + 1) = (a * 7 + d) + 1 from rfl]
    show sumR (rW w) (a * 7 + d) + rW w (a * 7 + d) = _
    rw [ih (by omega) (by omega)]
    unfold rW
    rw [if_neg (by omega)]
    rfl
theorem load_out {st : St} {w : Nat → Nat} {N : Nat} (hN : 129 ≤ N) (hw : ∀ i, i < 49 → st 26 i = nI (w i)) : ∀ (m a : Nat) (g : Nat → Int32), a ≤ 7 → 7 - a < m → (∀ i, i < 49 → g i = nI (if i < a * 7 then rW w i else 0)) → ∃ g' : Nat → Int32, lp_X0_load_12 N m (nI (sumR (rW w) (a * 7))) (nI a) (upr st 67 g) = some (nI (sumR (rW w) 49), upr st 67 g') ∧ (∀ i, i < 49 → g' i = nI (rW w i)) := by
  intro m
  induction m with
  | zero => intro a g h1 h2; omega
  | succ m ih =>
    intro a g h1 h2 h3
    change ∃ g' : Nat → Int32, lpB_X0_load_12 N (lp_X0_load_12 N m) _ (nI a) (upr st 67 g) = _ ∧ _
    unfold lpB_X0_load_12
    by_cases ha : a = 7
    · subst ha
      rw [if_pos (by decide)]
      exact ⟨g, rfl, fun i hi => by rw [h3 i hi, if_pos hi]⟩
    · rw [if_neg (by rw [L7]; exact nI_ge (by omega) (by decide)), lt_eq, nI_1]
      obtain ⟨g1, a1, a2⟩ := load_in hw (a := a) (by omega) (fun (v29 : Int32) (s30 : St) => lt (nI (a + 1)) (fun (v31 : Int32) => lp_X0_load_12 N m v29 v31 s30)) N (a + 1) (sumR (rW w) (a * 7)) g (by omega) (by omega) (by omega) (rW_z (a + 1) (Nat.le_refl _) (by omega)).symm (by
        intro i hi
        rw [h3 i hi]
        by_cases q : i < a * 7
        · rw [if_pos q, if_pos (by omega)]
        · rw [if_neg q]
          split
          · unfold rW; rw [if_neg (by omega)]
          · rfl)
      rw [a1, lt_eq]
      have e7 : (a + 1) * 7 = a * 7 + 7 := by omega
      have hh := ih (a + 1) g1 (by omega) (by omega) (by rw [e7]; exact a2)
      rw [e7] at hh
      exact hh
theorem loadX {st : St} {w : Nat → Nat} {N : Nat} (hN : 129 ≤ N) (hw : ∀ i, i < 49 → st 26 i = nI (w i)) : ∃ g' : Nat → Int32, F_X0_load N st = some (nI (sumR (rW w) 49), upr st 67 g') ∧ (∀ i, i < 49 → g' i = nI (rW w i)) := by
  obtain ⟨g, g1, g2, -⟩ := fillX (a := 67) (n := 49) (N := N) rfl rfl (by decide) (by omega) 0 st
  obtain ⟨g', a1, a2⟩ := load_out hN hw N 0 g (by omega) (by omega) (by
    intro i hi
    rw [g2 i hi, if_neg (by omega)]
    rfl)
  refine ⟨g', ?_, a2⟩
  unfold F_X0_load
  rw [lt_eq, g1, bs_s, lt_eq]
  exact a1
theorem tk_z {st : St} (K : St → Option St) : ∀ (m i : Nat) (g : Nat → Int32), i ≤ 49 → 49 - i < m → (∀ c, c < i → g c = 0) → ∃ g' : Nat → Int32, lp_X0_take_24 K m (nI i) (upr st 66 g) = K (upr st 66 g') ∧ ∀ c, c < 49 → g' c = 0 := by
  intro m
  induction m with
  | zero => intro i g h1 h2; omega
  | succ m ih =>
    intro i g h1 h2 h3
    change ∃ g' : Nat → Int32, lpB_X0_take_24 K (lp_X0_take_24 K m) (nI i) (upr st 66 g) = _ ∧ _
    unfold lpB_X0_take_24
    by_cases hi : i = 49
    · subst hi
      rw [if_pos (by decide)]
      exact ⟨g, rfl, h3⟩
    · rw [if_neg (by rw [L49]; exact nI_ge (by omega) (by decide))]
      simp (disch := omega) only [lt_eq, ck_in, nI_clamp, nI_1, up_upr, nb0]
      exact ih (i + 1) _ (by omega) (by omega) (by
        intro c hc
        rw [upd_app]
        split
        · rfl
        · exact h3 c (by omega))
theorem tk_g {st : St} (K : St → Option St) : ∀ (m i : Nat) (g : Nat → Int32), i ≤ 7 → 7 - i < m → (∀ c, c < i → g c = nI c) → ∃ g' : Nat → Int32, lp_X0_take_48 K m (nI i) (upr st 69 g) = K (upr st 69 g') ∧ ∀ c, c < 7 → g' c = nI c := by
  intro m
  induction m with
  | zero => intro i g h1 h2; omega
  | succ m ih =>
    intro i g h1 h2 h3
    change ∃ g' : Nat → Int32, lpB_X0_take_48 K (lp_X0_take_48 K m) (nI i) (upr st 69 g) = _ ∧ _
    unfold lpB_X0_take_48
    by_cases hi : i = 7
    · subst hi
      rw [if_pos (by decide)]
      exact ⟨g, rfl, h3⟩
    · rw [if_neg (by rw [L7]; exact nI_ge (by omega) (by decide))]
      simp (disch := omega) only [lt_eq, ck_in, nI_clamp, nI_1, up_upr]
      exact ih (i + 1) _ (by omega) (by omega) (by
        intro c hc
        rw [upd_app]
        by_cases e : c = i
        · rw [if_pos e, e]
        · rw [if_neg e]; exact h3 c (by omega))
def G0 (w : Nat → Nat) : GS := (rW w, fun _ => false, fun _ => 0, fun v => v, 0)
theorem G0_WG (w : Nat → Nat) : WG w (G0 w) := by
  refine ⟨?_, fun v _ => by show 0 ≤ 2; omega, fun v hv => hv⟩
  intro i hi h
  change 0 < rW w i at h
  show rW w i = w i ∧ _ ∧ false = false
  unfold rW at *
  by_cases e : i / 7 < i % 7
  · rw [if_pos e]; exact ⟨rfl, e, rfl⟩
  · rw [if_neg e] at h; omega
theorem takeX {st : St} {w : Nat → Nat} {N : Nat} (hN : 129 ≤ N) (hb : ∀ i, w i ≤ 60) (hw : ∀ i, i < 49 → st 26 i = nI (w i)) : ∃ st' : St, F_X0_take N st = some st' ∧ GX w (gRun 49 (G0 w)) st' ∧ Fr6 st st' := by
  obtain ⟨g, g1, g2, -⟩ := fillX (a := 68) (n := 7) (N := N) rfl rfl (by decide) (by omega) 0 st
  obtain ⟨gl, l1, l2⟩ := loadX (st := up (upr st 68 g) 65 4 0) hN (w := w) (by simp only [up_row, upr_app, Nat.reduceEqDiff, if_false]; exact hw)
  generalize hs3 : up (upr (up (upr st 68 g) 65 4 0) 67 gl) 65 5 (nI (sumR (rW w) 49)) = s3
  obtain ⟨gt, t1, t2⟩ := tk_z (st := s3) (fun (s29 : St) => lt (0 : Int32) (fun (v30 : Int32) => lp_X0_take_48 (fun (s33 : St) => bs (F_X0_greatest N s33) (fun (r34 : Int32) => lt r34 (fun (v35 : Int32) => lt (0 : Int32) (fun (v36 : Int32) => lp_X0_take_74 N N v35 v36 s33)))) N v30 s29)) N 0 (s3 66) (by omega) (by omega) (fun c hc => by omega)
  obtain ⟨gg, u1, u2⟩ := tk_g (st := upr s3 66 gt) (fun (s33 : St) => bs (F_X0_greatest N s33) (fun (r34 : Int32) => lt r34 (fun (v35 : Int32) => lt (0 : Int32) (fun (v36 : Int32) => lp_X0_take_74 N N v35 v36 s33)))) N 0 ((upr s3 66 gt) 69) (by omega) (by omega) (fun c hc => by omega)
  rw [upr_id, nI0] at t1 u1
  have hlf : lf w (fun _ => false) = sumR (rW w) 49 := by
    unfold lf
    apply sumR_congr
    intro i _
    unfold rW
    by_cases e : i / 7 < i % 7 <;> simp [e]
  have hG : GX w (G0 w) (upr (upr s3 66 gt) 69 gg) := by
    rw [← hs3]
    refine ⟨?_, ?_, ?_, ?_, ?_, ?_⟩
    · simp only [up_row, upr_app, Nat.reduceEqDiff, if_false, if_true]; exact l2
    · simp only [up_row, upr_app, Nat.reduceEqDiff, if_false, if_true]; intro i hi; rw [t2 i hi]; rfl
    · simp only [up_row, upr_app, Nat.reduceEqDiff, if_false, if_true]; intro i hi; rw [g2 i hi]; rfl
    · simp only [up_row, upr_app, Nat.reduceEqDiff, if_false, if_true]; exact u2
    · simp only [up_row, upr_app, Nat.reduceEqDiff, if_false, if_true, upd_app]; rfl
    · simp only [up_row, upr_app, Nat.reduceEqDiff, if_false, if_true, upd_app]
      rw [show (G0 w).2.1 = fun _ => false from rfl, hlf]
  have hG2 := hG
  obtain ⟨st', e1, e2, e3⟩ := take_lp hb hN 49 N 0 (G0 w) _ (by omega) (by omega) (nz_le _) (G0_WG w) hG
  refine ⟨st', ?_, e2, ?_⟩
  · unfold F_X0_take
    rw [g1, bs_s, lt_eq, l1, bd_s, lt_eq, lt_eq, hs3, t1, lt_eq, u1, greatX (r := rW w) hN hG2.1 (by
      intro i hi
      have := hb i
      unfold rW
      split <;> omega), bs_s, lt_eq, lt_eq, L0]
    exact e1
  · intro k k1 k2 k3 k4 k5
    rw [e3 k k1 k2 k3 k4 k5, ← hs3]
    simp only [up_row, upr_app, if_neg k1, if_neg k2, if_neg k3, if_neg k4, if_neg k5]
