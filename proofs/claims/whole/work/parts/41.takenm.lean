theorem chain_lp {st : St} {grp : Nat → Nat} {a b : Nat} (ha : a < 7) (hne : grp a ≠ grp b) (h7 : ∀ v, v < 7 → grp v < 7) (hb7 : b < 7) (K : St → Option St) : ∀ (m i : Nat) (g : Nat → Int32), i ≤ 7 → 7 - i < m → (∀ v, v < 7 → g v = nI (if v < i then gGrp grp a b v else grp v)) → ∃ g' : Nat → Int32, lp_X8_layTaken_174 (nI a) (nI (grp b)) K m (nI i) (upr st 92 g) = K (upr st 92 g') ∧ ∀ v, v < 7 → g' v = nI (gGrp grp a b v) := by
  intro m
  induction m with
  | zero => intro i g h1 h2; omega
  | succ m ih =>
    intro i g h1 h2 h3
    change ∃ g' : Nat → Int32, lpB_X8_layTaken_174 (nI a) (nI (grp b)) K (lp_X8_layTaken_174 (nI a) (nI (grp b)) K m) (nI i) (upr st 92 g) = _ ∧ _
    unfold lpB_X8_layTaken_174
    by_cases hi : i = 7
    · subst hi
      rw [if_pos (by decide)]
      exact ⟨g, rfl, fun v hv => by rw [h3 v hv, if_pos hv]⟩
    · rw [if_neg (by rw [L7]; exact nI_ge (by omega) (by decide))]
      have ei : g i = nI (grp i) := by rw [h3 i (by omega), if_neg (by omega)]
      have ea : g a = nI (grp a) := by
        rw [h3 a ha]
        split
        · unfold gGrp; rw [if_neg hne]
        · rfl
      have r92 : ∀ g, (upr st 92 g) 92 = g := fun g => by rw [upr_app, if_pos rfl]
      simp (disch := omega) only [lt_eq, ck_in, nI_clamp, nI_1, up_upr, r92, ei, ea]
      have hgi := h7 i (by omega)
      have hgb := h7 b hb7
      by_cases e : grp i = grp b
      · rw [if_pos (by rw [e])]
        refine ih (i + 1) _ (by omega) (by omega) ?_
        intro v hv
        rw [upd_app]
        by_cases ev : v = i
        · rw [if_pos ev, ev, if_pos (by omega)]
          unfold gGrp
          rw [if_pos e]
        · rw [if_neg ev, h3 v hv]
          by_cases q : v < i
          · rw [if_pos q, if_pos (by omega)]
          · rw [if_neg q, if_neg (by omega)]
      · rw [if_neg (by rw [nI_eq (by omega) (by omega)]; exact e)]
        refine ih (i + 1) _ (by omega) (by omega) ?_
        intro v hv
        rw [upd_app]
        by_cases ev : v = i
        · rw [if_pos ev, ev, if_pos (by omega)]
          unfold gGrp
          rw [if_neg e]
        · rw [if_neg ev, h3 v hv]
          by_cases q : v < i
          · rw [if_pos q, if_pos (by omega)]
          · rw [if_neg q, if_neg (by omega)]
/-- the reference holds G -/
def GM (w : Nat → Nat) (gn : Nat → Bool) (G : GS) (st : St) : Prop := (∀ i, i < 49 → st 88 i = nI (w i)) ∧ (∀ i, i < 49 → st 90 i = bi (gn i)) ∧ (∀ i, i < 49 → st 89 i = bi (G.2.1 i)) ∧ (∀ v, v < 7 → st 91 v = nI (G.2.2.1 v)) ∧ (∀ v, v < 7 → st 92 v = nI (G.2.2.2.1 v)) ∧ st 70 26 = nI G.2.2.2.2 ∧ G.1 = rG w gn
def Fr7 (st st' : St) : Prop := (∀ k, k ≠ 70 → k ≠ 89 → k ≠ 90 → k ≠ 91 → k ≠ 92 → st' k = st k) ∧ ∀ j, j ≠ 26 → st' 70 j = st 70 j
theorem rG_up (w : Nat → Nat) (gn : Nat → Bool) (p : Nat) : (fun i => if i = p then 0 else rG w gn i) = rG w (fun i => decide (i = p) || gn i) := by
  funext i
  unfold rG
  by_cases e : i = p <;> simp [e]
theorem takenM_lp {w : Nat → Nat} (hw : ∀ i, w i ≤ 60) {N : Nat} (hN : 129 ≤ N) : ∀ (f m : Nat) (gn : Nat → Bool) (G : GS) (st : St), f < m → nz G.1 ≤ f → WG w G → GM w gn G st → ∃ (gn' : Nat → Bool) (st' : St), lp_X8_layTaken_70 N m (oM (gst G.1 49)) st = some st' ∧ GM w gn' (gRun f G) st' ∧ Fr7 st st' := by
  intro f
  induction f with
  | zero =>
    intro m gn G st hm hz hW h
    obtain ⟨m', rfl⟩ : ∃ m', m = m' + 1 := ⟨m - 1, by omega⟩
    refine ⟨gn, st, ?_, h, fun _ _ _ _ _ _ => rfl, fun _ _ => rfl⟩
    have hn : gst G.1 49 = none := by
      cases hg : gst G.1 49 with
      | none => rfl
      | some p =>
        obtain ⟨p1, p2⟩ := gst_s 49 p hg
        have := nz_pos p1 p2
        omega
    rw [hn]
    change lpB_X8_layTaken_70 N (lp_X8_layTaken_70 N m') (oM none) st = some st
    unfold lpB_X8_layTaken_70
    rw [if_pos (by decide)]
  | succ f ih =>
    intro m gn G st hm hz hW h
    obtain ⟨m', rfl⟩ : ∃ m', m = m' + 1 := ⟨m - 1, by omega⟩
    change ∃ (gn' : Nat → Bool) (st' : St), lpB_X8_layTaken_70 N (lp_X8_layTaken_70 N m') (oM (gst G.1 49)) st = _ ∧ _
    unfold lpB_X8_layTaken_70
    cases hg : gst G.1 49 with
    | none =>
      refine ⟨gn, st, by rw [if_pos (by decide)], ?_, fun _ _ _ _ _ _ => rfl, fun _ _ => rfl⟩
      unfold gRun
      rw [hg]
      exact h
    | some p =>
      obtain ⟨p1, p2⟩ := gst_s 49 p hg
      obtain ⟨p3, p4, p5⟩ := hW.1 p p1 p2
      have hrun : gRun (f + 1) G = gRun f (gStep G p) := by
        rw [show gRun (f + 1) G = match gst G.1 49 with
          | none => G
          | some p => gRun f (gStep G p) from rfl, hg]
      rw [hrun, show oM (some p) = nI p from rfl, if_neg (nI_pos (by omega))]
      have hW' := gStep_WG p1 p4 hW
      have hz' : nz (gStep G p).1 ≤ f := by
        rw [gStep_r]
        have := nz_step p1 p2
        omega
      have hd1 := hW.2.1 (p / 7) (by omega)
      have hd2 := hW.2.1 (p % 7) (by omega)
      have hg1 := hW.2.2 (p / 7) (by omega)
      have hg2 := hW.2.2 (p % 7) (by omega)
      have a7 : p / 7 < 7 := by omega
      have b7 : p % 7 < 7 := by omega
      simp only [ck7, lt_eq]
      rw [rem7 p1, div7 p1]
      have s91 : ∀ v, v < 7 → (up st 90 p 1) 91 v = nI (G.2.2.1 v) := by simp only [up_row, Nat.reduceEqDiff, if_false]; exact h.2.2.2.1
      have s92 : ∀ v, v < 7 → (up st 90 p 1) 92 v = nI (G.2.2.2.1 v) := by simp only [up_row, Nat.reduceEqDiff, if_false]; exact h.2.2.2.2.1
      simp (disch := omega) only [ck_in, nI_clamp, nb1, s91, s92]
      have go : ∀ s : St, GM w (fun i => decide (i = p) || gn i) (gStep G p) s → Fr7 st s → ∃ (gn' : Nat → Bool) (st' : St), (bs (F_X8_heaviest N s) fun r42 => lp_X8_layTaken_70 N m' r42 s) = some st' ∧ GM w gn' (gRun f (gStep G p)) st' ∧ Fr7 st st' := by
        intro s hs hfr
        rw [heavyM hN hs.1 hs.2.1 hw, bs_s]
        obtain ⟨gn', st', s1, s2, s3⟩ := ih m' _ (gStep G p) s (by omega) hz' hW' hs
        rw [hs.2.2.2.2.2.2] at s1
        refine ⟨gn', st', s1, s2, fun q q1 q2 q3 q4 q5 => ?_, fun j hj => ?_⟩
        · rw [s3.1 q q1 q2 q3 q4 q5]
          exact hfr.1 q q1 q2 q3 q4 q5
        · rw [s3.2 j hj]
          exact hfr.2 j hj
      have r90 : ∀ i, i < 49 → (up st 90 p 1) 90 i = bi (decide (i = p) || gn i) := by
        intro i hi
        simp only [up_row, if_true]
        rw [upd_app]
        by_cases e : i = p
        · rw [if_pos e]; simp [e, bi]
        · rw [if_neg e, h.2.1 i hi]; simp [e]
      have rr : (gStep G p).1 = rG w (fun i => decide (i = p) || gn i) := by rw [gStep_r, h.2.2.2.2.2.2, rG_up]
      have hno : gJoin G p = false → GM w (fun i => decide (i = p) || gn i) (gStep G p) (up st 90 p 1) := by
        intro hj
        have e : (gStep G p).2 = G.2 := by
          unfold gStep
          rw [if_neg (by rw [hj]; decide)]
        refine ⟨?_, r90, ?_, ?_, ?_, ?_, rr⟩
        · simp only [up_row, Nat.reduceEqDiff, if_false]; exact h.1
        · rw [e]; simp only [up_row, Nat.reduceEqDiff, if_false]; exact h.2.2.1
        · rw [e]; exact s91
        · rw [e]; exact s92
        · rw [e]; simp only [up_row, Nat.reduceEqDiff, if_false]; exact h.2.2.2.2.2.1
      have fr0 : Fr7 st (up st 90 p 1) := ⟨fun q q1 q2 q3 q4 q5 => by rw [up_row, if_neg q3], fun j hj => by rw [up_row, if_neg (by decide)]⟩
      by_cases c1 : G.2.2.1 (p / 7) < 2
      · rw [if_neg (by rw [L2, nI_leI (by omega) (by omega)]; omega)]
        by_cases c2 : G.2.2.1 (p % 7) < 2
        · rw [if_neg (by rw [L2, nI_leI (by omega) (by omega)]; omega)]
          by_cases c3 : G.2.2.2.1 (p / 7) = G.2.2.2.1 (p % 7)
          · rw [if_pos (by rw [c3])]
            exact go _ (hno (by unfold gJoin; simp [c3])) fr0
          · rw [if_neg (by rw [nI_eq (by omega) (by omega)]; exact c3)]
            have hj : gJoin G p = true := by unfold gJoin; simp [c1, c2, c3]
            have e : gStep G p = (fun i => if i = p then 0 else G.1 i, fun i => decide (i = p) || G.2.1 i, gDeg G.2.2.1 (p / 7) (p % 7), gGrp G.2.2.2.1 (p / 7) (p % 7), G.2.2.2.2 + 1) := by
              unfold gStep
              rw [if_pos hj]
            have q0 : (up (up st 90 p 1) 89 p 1) 70 26 + 1 = nI (G.2.2.2.2 + 1) := by
              simp only [up_row, Nat.reduceEqDiff, if_false]
              rw [h.2.2.2.2.2.1, nI_1]
            rw [q0]
            have q1 : (up (up (up st 90 p 1) 89 p 1) 70 26 (nI (G.2.2.2.2 + 1))) 91 (p / 7) + 1 = nI (G.2.2.1 (p / 7) + 1) := by
              simp only [up_row, Nat.reduceEqDiff, if_false]
              rw [h.2.2.2.1 _ a7, nI_1]
            rw [q1]
            have q2 : (up (up (up (up st 90 p 1) 89 p 1) 70 26 (nI (G.2.2.2.2 + 1))) 91 (p / 7) (nI (G.2.2.1 (p / 7) + 1))) 91 (p % 7) + 1 = nI (G.2.2.1 (p % 7) + 1) := by
              simp only [up_row, Nat.reduceEqDiff, if_false, if_true]
              rw [upd_app, if_neg (by omega), h.2.2.2.1 _ b7, nI_1]
            rw [q2]
            generalize hs5 : (up (up (up (up (up st 90 p 1) 89 p 1) 70 26 (nI (G.2.2.2.2 + 1))) 91 (p / 7) (nI (G.2.2.1 (p / 7) + 1))) 91 (p % 7) (nI (G.2.2.1 (p % 7) + 1))) = s5
            have q3 : s5 92 = st 92 := by
              rw [← hs5]
              simp only [up_row, Nat.reduceEqDiff, if_false]
            obtain ⟨g', j1, j2⟩ := chain_lp (st := s5) a7 c3 hW.2.2 b7 (fun s52 => bs (F_X8_heaviest N s52) fun r40 => lp_X8_layTaken_70 N m' r40 s52) N 0 (s5 92) (by omega) (by omega) (fun v hv => by rw [q3, h.2.2.2.2.1 v hv, if_neg (by omega)])
            rw [upr_id, nI0] at j1
            rw [q3, h.2.2.2.2.1 _ b7, j1]
            refine go _ ?_ ?_
            · refine ⟨?_, ?_, ?_, ?_, ?_, ?_, rr⟩
              · rw [← hs5]
                simp only [upr_app, up_row, Nat.reduceEqDiff, if_false]
                exact h.1
              · rw [← hs5]
                simp only [upr_app, up_row, Nat.reduceEqDiff, if_false, if_true]
                intro i hi
                have := r90 i hi
                simp only [up_row, if_true] at this
                exact this
              · rw [e, ← hs5]
                simp only [upr_app, up_row, Nat.reduceEqDiff, if_false, if_true]
                intro i hi
                rw [upd_app]
                by_cases ei : i = p
                · rw [if_pos ei]; simp [ei, bi]
                · rw [if_neg ei, h.2.2.1 i hi]; simp [ei]
              · rw [e, ← hs5]
                simp only [upr_app, up_row, Nat.reduceEqDiff, if_false, if_true]
                intro v hv
                rw [upd_app, upd_app]
                unfold gDeg
                by_cases e2 : v = p % 7
                · rw [if_pos e2, e2, if_neg (by omega), if_pos rfl]
                · rw [if_neg e2, if_neg e2]
                  by_cases e1 : v = p / 7
                  · rw [if_pos e1, e1, if_pos rfl]
                  · rw [if_neg e1, if_neg e1, h.2.2.2.1 v hv]
                    rfl
              · rw [e]
                intro v hv
                rw [upr_app, if_pos rfl]
                exact j2 v hv
              · rw [e, ← hs5]
                simp only [upr_app, up_row, Nat.reduceEqDiff, if_false, if_true]
                rw [upd_app, if_pos rfl]
            · rw [← hs5]
              refine ⟨fun q q1 q2 q3 q4 q5 => ?_, fun j hj => ?_⟩
              · simp only [upr_app, up_row, if_neg q1, if_neg q2, if_neg q3, if_neg q4, if_neg q5]
              · simp only [upr_app, up_row, Nat.reduceEqDiff, if_false, if_true]
                rw [upd_app, if_neg hj]
        · rw [if_pos (by rw [L2, nI_leI (by omega) (by omega)]; omega)]
          exact go _ (hno (by unfold gJoin; simp [c2])) fr0
      · rw [if_pos (by rw [L2, nI_leI (by omega) (by omega)]; omega)]
        exact go _ (hno (by unfold gJoin; simp [c1])) fr0
theorem lt_z {st : St} (K : St → Option St) : ∀ (m i : Nat) (g h : Nat → Int32), i ≤ 49 → 49 - i < m → (∀ c, c < i → g c = 0 ∧ h c = 0) → ∃ g' h' : Nat → Int32, lp_X8_layTaken_11 K m (nI i) (upr (upr st 89 g) 90 h) = K (upr (upr st 89 g') 90 h') ∧ ∀ c, c < 49 → g' c = 0 ∧ h' c = 0 := by
  intro m
  induction m with
  | zero => intro i g h h1 h2; omega
  | succ m ih =>
    intro i g h h1 h2 h3
    change ∃ g' h' : Nat → Int32, lpB_X8_layTaken_11 K (lp_X8_layTaken_11 K m) (nI i) (upr (upr st 89 g) 90 h) = _ ∧ _
    unfold lpB_X8_layTaken_11
    by_cases hi : i = 49
    · subst hi
      rw [if_pos (by decide)]
      exact ⟨g, h, rfl, h3⟩
    · rw [if_neg (by rw [L49]; exact nI_ge (by omega) (by decide))]
      have e : ∀ g h, up (upr (upr st 89 g) 90 h) 89 i 0 = upr (upr st 89 (upd g i 0)) 90 h := by
        intro g h
        funext q
        simp only [up_row, upr_app]
        by_cases q1 : q = 89
        · subst q1; simp
        · simp [q1]
      simp (disch := omega) only [lt_eq, ck_in, nI_clamp, nI_1, nb0, e, up_upr]
      exact ih (i + 1) _ _ (by omega) (by omega) (by
        intro c hc
        rw [upd_app, upd_app]
        by_cases ec : c = i
        · rw [if_pos ec, if_pos ec]; exact ⟨rfl, rfl⟩
        · rw [if_neg ec, if_neg ec]; exact h3 c (by omega))
theorem lt_g {st : St} (K : St → Option St) : ∀ (m i : Nat) (g h : Nat → Int32), i ≤ 7 → 7 - i < m → (∀ c, c < i → g c = 0 ∧ h c = nI c) → ∃ g' h' : Nat → Int32, lp_X8_layTaken_39 K m (nI i) (upr (upr st 91 g) 92 h) = K (upr (upr st 91 g') 92 h') ∧ ∀ c, c < 7 → g' c = 0 ∧ h' c = nI c := by
  intro m
  induction m with
  | zero => intro i g h h1 h2; omega
  | succ m ih =>
    intro i g h h1 h2 h3
    change ∃ g' h' : Nat → Int32, lpB_X8_layTaken_39 K (lp_X8_layTaken_39 K m) (nI i) (upr (upr st 91 g) 92 h) = _ ∧ _
    unfold lpB_X8_layTaken_39
    by_cases hi : i = 7
    · subst hi
      rw [if_pos (by decide)]
      exact ⟨g, h, rfl, h3⟩
    · rw [if_neg (by rw [L7]; exact nI_ge (by omega) (by decide))]
      have e : ∀ g h, up (upr (upr st 91 g) 92 h) 91 i 0 = upr (upr st 91 (upd g i 0)) 92 h := by
        intro g h
        funext q
        simp only [up_row, upr_app]
        by_cases q1 : q = 91
        · subst q1; simp
        · simp [q1]
      simp (disch := omega) only [lt_eq, ck_in, nI_clamp, nI_1, e, up_upr]
      exact ih (i + 1) _ _ (by omega) (by omega) (by
        intro c hc
        rw [upd_app, upd_app]
        by_cases ec : c = i
        · rw [if_pos ec, if_pos ec, ec]; exact ⟨rfl, rfl⟩
        · rw [if_neg ec, if_neg ec]; exact h3 c (by omega))
theorem rW_rG (w : Nat → Nat) : rW w = rG w (fun _ => false) := by
  funext i
  unfold rW rG
  simp
theorem takenM {S : Sn} {st : St} {N : Nat} (hN : 129 ≤ N) (hS : SnOk S) (hm : ModRep S st) : ∃ (gn : Nat → Bool) (st' : St), F_X8_layTaken N st = some st' ∧ GM (wS S) gn (gRun 49 (G0 (wS S))) st' ∧ (∀ k, k ∉ [70, 79, 88, 89, 90, 91, 92] → st' k = st k) ∧ (∀ j, j ≠ 26 → st' 70 j = st 70 j) := by
  obtain ⟨g1, g2, a1, a2⟩ := weightsM (N := N) hN hS hm
  generalize hs1 : up (upr (upr st 79 g2) 88 g1) 70 26 0 = s1
  obtain ⟨gz, hz, z1, z2⟩ := lt_z (st := s1) (fun (s27 : St) => lt (0 : Int32) (fun (v28 : Int32) => lp_X8_layTaken_39 (fun (s32 : St) => bs (F_X8_heaviest N s32) (fun (r33 : Int32) => lt r33 (fun (v34 : Int32) => lp_X8_layTaken_70 N N v34 s32))) N v28 s27)) N 0 (s1 89) (s1 90) (by omega) (by omega) (fun c hc => by omega)
  have e0 : upr (upr s1 89 (s1 89)) 90 (s1 90) = s1 := by
    rw [upr_id]
    exact upr_id
  rw [e0, nI0] at z1
  generalize hs2 : upr (upr s1 89 gz) 90 hz = s2 at z1
  obtain ⟨gy, hy, y1, y2⟩ := lt_g (st := s2) (fun (s32 : St) => bs (F_X8_heaviest N s32) (fun (r33 : Int32) => lt r33 (fun (v34 : Int32) => lp_X8_layTaken_70 N N v34 s32))) N 0 (s2 91) (s2 92) (by omega) (by omega) (fun c hc => by omega)
  have e1 : upr (upr s2 91 (s2 91)) 92 (s2 92) = s2 := by
    rw [upr_id]
    exact upr_id
  rw [e1, nI0] at y1
  generalize hs3 : upr (upr s2 91 gy) 92 hy = s3 at y1
  have hG : GM (wS S) (fun _ => false) (G0 (wS S)) s3 := by
    refine ⟨?_, ?_, ?_, ?_, ?_, ?_, rW_rG _⟩
    · rw [← hs3, ← hs2, ← hs1]
      simp only [upr_app, up_row, Nat.reduceEqDiff, if_false, if_true]
      exact a2
    · rw [← hs3, ← hs2]
      simp only [upr_app, Nat.reduceEqDiff, if_false, if_true]
      intro i hi
      rw [(z2 i hi).2]; rfl
    · rw [← hs3, ← hs2]
      simp only [upr_app, Nat.reduceEqDiff, if_false, if_true]
      intro i hi
      rw [(z2 i hi).1]; rfl
    · rw [← hs3]
      simp only [upr_app, Nat.reduceEqDiff, if_false, if_true]
      intro i hi
      rw [(y2 i hi).1]; rfl
    · rw [← hs3]
      simp only [upr_app, Nat.reduceEqDiff, if_false, if_true]
      intro i hi
      rw [(y2 i hi).2]; rfl
    · rw [← hs3, ← hs2, ← hs1]
      simp only [upr_app, up_row, Nat.reduceEqDiff, if_false, if_true, upd_app]
      rfl
  obtain ⟨gn', st', b1, b2, b3⟩ := takenM_lp (wS_le hS) hN 49 N _ (G0 (wS S)) s3 (by omega) (nz_le _) (G0_WG _) hG
  refine ⟨gn', st', ?_, b2, ?_, ?_⟩
  · unfold F_X8_layTaken
    rw [a1, bs_s, lt_eq, lt_eq, hs1, z1, lt_eq, y1, heavyM hN hG.1 hG.2.1 (wS_le hS), bs_s, lt_eq]
    rw [show (G0 (wS S)).1 = rG (wS S) (fun _ => false) from rW_rG _] at b1
    exact b1
  · intro k hk
    simp only [List.mem_cons, List.not_mem_nil, or_false, not_or] at hk
    obtain ⟨k1, k2, k3, k4, k5, k6, k7⟩ := hk
    rw [b3.1 k k1 k4 k5 k6 k7, ← hs3, ← hs2, ← hs1]
    simp only [upr_app, up_row, if_neg k1, if_neg k2, if_neg k3, if_neg k4, if_neg k5, if_neg k6, if_neg k7]
  · intro j hj
    rw [b3.2 j hj, ← hs3, ← hs2, ← hs1]
    simp only [upr_app, up_row, Nat.reduceEqDiff, if_false, if_true]
    rw [upd_app, if_neg hj]
theorem Fr6.out {st st' : St} (h : Fr6 st st') {k : Nat} (hk : k ∉ sIds) : st' k = st k := by
  simp only [sIds, List.mem_cons, List.not_mem_nil, or_false, not_or] at hk
  exact h k (by omega) (by omega) (by omega) (by omega) (by omega)
theorem tk7_out {k : Nat} (hk : k ∉ sIds) : k ∉ [70, 79, 88, 89, 90, 91, 92] := by
  simp only [sIds, List.mem_cons, List.not_mem_nil, or_false, not_or] at *
  omega
theorem ok_taken {st : St} {N : Nat} (hN : 129 ≤ N) (hI : Inv st) (v1 v2 : Int32) : Ok (F_X7_taken N v1 v2) (F_X8_taken N v1 v2) st := by
  have hI0 := hI
  obtain ⟨S, kp, SI, hI⟩ := hI
  have hS := hI.1
  rcases var_c v1 with ⟨a, ha, rfl, h1, h2⟩ | ⟨h1, h2⟩
  · rcases var_c v2 with ⟨b, hb, rfl, h3, h4⟩ | ⟨h3, h4⟩
    · obtain ⟨sa, a1, a2, a3⟩ := weightsX (N := N) hN hS hI.2.1
      obtain ⟨sb, b1, b2, b3⟩ := takeX (N := N) hN (wS_le hS) a2
      have hIb : InvS S kp SI sb := hI.look (by rw [b3 70 (by decide) (by decide) (by decide) (by decide) (by decide), a3 70 (by decide) (by decide) (by decide) (by decide) (by decide)]) (fun k hk => by rw [b3.out hk, a3.out hk])
      obtain ⟨gn, sc, c1, c2, c3, c4⟩ := takenM (N := N) hN hS hIb.2.2.1
      have hbt : ∀ i, i < 49 → narrow .boolean (.int (sb 66 i)) = .int (sb 66 i) := fun i hi => by rw [b2.2.1 i hi]; exact nr_bi _
      generalize hq : gRun 49 (G0 (wS S)) = G at b2 c2
      have hmi : mir (a * 7 + b) = 7 * b + a := by unfold mir; omega
      refine ⟨bi (G.2.1 (7 * a + b) || G.2.1 (7 * b + a)), sb, sc, ?_, ?_, S, kp, SI, ?_⟩
      · unfold F_X7_taken F_X0_has
        rw [h1, bs_s, if_neg e10, h3, bs_s, if_neg e10, a1, bs_s, b1, bs_s]
        simp (disch := omega) only [L7, pk_mul, nI_add, ck_in, nI_clamp]
        rw [ck_d (hbt _ (by omega)), bs_s, b2.2.1 _ (by omega), hmi, Nat.mul_comm a 7]
        cases G.2.1 (7 * a + b) <;> cases G.2.1 (7 * b + a) <;> rfl
      · unfold F_X8_taken
        rw [h2, bs_s, if_neg e10, h4, bs_s, if_neg e10, c1, bs_s]
        simp (disch := omega) only [L7, pk_mul, nI_add, ck_in, nI_clamp]
        rw [c2.2.2.1 _ (by omega), c2.2.2.1 _ (by omega)]
        cases G.2.1 (7 * a + b) <;> cases G.2.1 (7 * b + a) <;> rfl
      · exact hIb.look (c4 0 (by decide)) (fun k hk => c3 k (tk7_out hk))
    · refine Ok.same hI0 (-1) ?_ ?_
      · unfold F_X7_taken
        rw [h1, bs_s, if_neg e10, h3, bs_s, if_pos rfl]
      · unfold F_X8_taken
        rw [h2, bs_s, if_neg e10, h4, bs_s, if_pos rfl]
  · refine Ok.same hI0 (-1) ?_ ?_
    · unfold F_X7_taken
      rw [h1, bs_s, if_pos rfl]
    · unfold F_X8_taken
      rw [h2, bs_s, if_pos rfl]
