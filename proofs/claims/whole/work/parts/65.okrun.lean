-- run
def resV (k : Nat) (a b : Int32) : Int32 := if k = 1 then a + b else if k = 2 then a - b else if k = 3 then a * b else if k = 4 then (if b < a then b else a) else a
/-- values behind the first k statements -/
def exV (S : Sn) : Nat → Nat → Int32
  | 0 => sV S
  | k + 1 => upd (exV S k) (sT S k) (resV (sK S k) (exV S k (sL S k)) (exV S k (sR S k)))
def runS (S : Sn) : Sn := (S.1, S.2.1, S.2.2.1, exV S (sN S), S.2.2.2.2)
theorem runS_ok {S : Sn} (h : SnOk S) : SnOk (runS S) := h
theorem resX {k : Nat} (hk : k ≤ 4) (a b : Int32) : F_X5_result (nI k) a b = some (resV k a b) := by
  rcases (show k = 0 ∨ k = 1 ∨ k = 2 ∨ k = 3 ∨ k = 4 by omega) with rfl | rfl | rfl | rfl | rfl <;> rfl
theorem exX_lp {S : Sn} (hS : SnOk S) : ∀ (m s : Nat) (st : St), s ≤ sN S → sN S - s < m → st 1 0 = nI (sN S) → (∀ i, i < sN S → st 2 i = nI (sK S i) ∧ st 3 i = nI (sT S i) ∧ st 4 i = nI (sL S i) ∧ st 5 i = nI (sR S i)) → (∀ v, v < 7 → st 6 v = exV S s v) → ∃ st' : St, lp_X5_execute_2 m (nI s) st = some st' ∧ (∀ v, v < 7 → st' 6 v = exV S (sN S) v) ∧ ∀ k, k ≠ 6 → st' k = st k := by
  intro m
  induction m with
  | zero => intro s st h1 h2; omega
  | succ m ih =>
    intro s st h1 h2 h10 hrep h6
    have hn10 := hS.1
    change ∃ st' : St, lpB_X5_execute_2 (lp_X5_execute_2 m) (nI s) st = _ ∧ _
    unfold lpB_X5_execute_2
    rw [h10]
    by_cases hs : s = sN S
    · rw [hs, if_pos (nI_le (Nat.le_refl _) (by omega))]
      exact ⟨st, rfl, by rw [hs] at h6; exact h6, fun _ _ => rfl⟩
    · have hlt : s < sN S := by omega
      obtain ⟨e2, e3, e4, e5⟩ := hrep s hlt
      obtain ⟨o1, o2, o3, o4, -⟩ := hS.2.1 s hlt
      rw [if_neg (nI_ge hlt (by omega))]
      simp only [ck_in (show s < 10 by omega) (show (10 : Nat) < 2 ^ 31 by decide), nI_clamp (show s < 2 ^ 31 by omega), e2, e3, e4, e5, ck_in o2 (show (7 : Nat) < 2 ^ 31 by decide), ck_in o3 (show (7 : Nat) < 2 ^ 31 by decide), ck_in o4 (show (7 : Nat) < 2 ^ 31 by decide), nI_clamp (show sT S s < 2 ^ 31 by omega), nI_clamp (show sL S s < 2 ^ 31 by omega), nI_clamp (show sR S s < 2 ^ 31 by omega), resX o1, bs_s, lt_eq, nI_1, h6 _ o3, h6 _ o4]
      obtain ⟨st', k1, k2, k3⟩ := ih (s + 1) (up st 6 (sT S s) (resV (sK S s) (exV S s (sL S s)) (exV S s (sR S s)))) (by omega) (by omega) (by simp only [up_app]; exact h10) (by
        intro i hi
        simp only [up_app]
        exact hrep i hi) (by
        intro v hv
        rw [up_row, if_pos rfl]
        show upd (st 6) (sT S s) _ v = upd (exV S s) (sT S s) _ v
        rw [upd_app, upd_app, h6 v hv])
      refine ⟨st', k1, k2, fun k hk => ?_⟩
      rw [k3 k hk, up_row, if_neg hk]
theorem exX {S : Sn} {st : St} {N : Nat} (hN : 31 ≤ N) (hS : SnOk S) (hc : ClsRep 1 S st) : ∃ st' : St, F_X5_execute N st = some st' ∧ ClsRep 1 (runS S) st' ∧ ∀ k, k ≠ 6 → st' k = st k := by
  have hn10 := hS.1
  obtain ⟨st', k1, k2, k3⟩ := exX_lp hS N 0 st (by omega) (by omega) hc.1 hc.2.1 (fun v hv => (hc.2.2.2 v hv).1)
  refine ⟨st', ?_, ⟨?_, ?_, ?_, ?_⟩, k3⟩
  · unfold F_X5_execute
    rw [lt_eq, L0]
    exact k1
  · rw [k3 1 (by decide)]; exact hc.1
  · intro i hi
    rw [k3 _ (by decide), k3 _ (by decide), k3 _ (by decide), k3 _ (by decide)]
    exact hc.2.1 i hi
  · rw [k3 1 (by decide)]; exact hc.2.2.1
  · intro v hv
    refine ⟨k2 v hv, ?_⟩
    rw [k3 _ (by decide)]
    exact (hc.2.2.2 v hv).2
theorem le_min (a b : Int32) : (if b ≤ a then b else a) = if b < a then b else a := by
  by_cases h : b < a
  · rw [if_pos h, if_pos (by rw [i32_lt] at h; rw [i32_le]; omega)]
  · rw [if_neg h]
    by_cases h2 : b ≤ a
    · rw [if_pos h2]
      apply Int32.toInt_inj.mp
      rw [i32_lt] at h
      rw [i32_le] at h2
      omega
    · rw [if_neg h2]
theorem runM_lp {S : Sn} (hS : SnOk S) : ∀ (m s : Nat) (st : St), s ≤ sN S → sN S - s < m → st 70 0 = nI (sN S) → (∀ i, i < sN S → st 71 i = nI (sK S i) ∧ st 72 i = nI (sT S i) ∧ st 73 i = nI (sL S i) ∧ st 74 i = nI (sR S i)) → (∀ v, v < 7 → st 75 v = exV S s v) → ∃ st' : St, lp_X8_run_19 m (nI s) st = some (st 70 19, st') ∧ (∀ v, v < 7 → st' 75 v = exV S (sN S) v) ∧ ∀ k, k ≠ 75 → st' k = st k := by
  intro m
  induction m with
  | zero => intro s st h1 h2; omega
  | succ m ih =>
    intro s st h1 h2 h70 hrep h75
    have hn10 := hS.1
    change ∃ st' : St, lpB_X8_run_19 (lp_X8_run_19 m) (nI s) st = _ ∧ _
    unfold lpB_X8_run_19
    rw [h70]
    by_cases hs : s = sN S
    · rw [hs, if_pos (nI_le (Nat.le_refl _) (by omega))]
      exact ⟨st, rfl, by rw [hs] at h75; exact h75, fun _ _ => rfl⟩
    · have hlt : s < sN S := by omega
      obtain ⟨e2, e3, e4, e5⟩ := hrep s hlt
      obtain ⟨o1, o2, o3, o4, -⟩ := hS.2.1 s hlt
      rw [if_neg (nI_ge hlt (by omega))]
      simp only [ck_in (show s < 10 by omega) (show (10 : Nat) < 2 ^ 31 by decide), nI_clamp (show s < 2 ^ 31 by omega), e2, e3, e4, e5, ck_in o2 (show (7 : Nat) < 2 ^ 31 by decide), ck_in o3 (show (7 : Nat) < 2 ^ 31 by decide), ck_in o4 (show (7 : Nat) < 2 ^ 31 by decide), nI_clamp (show sT S s < 2 ^ 31 by omega), nI_clamp (show sL S s < 2 ^ 31 by omega), nI_clamp (show sR S s < 2 ^ 31 by omega), lt_eq, nI_1, h75 _ o3, h75 _ o4]
      have key : ∀ v, v = resV (sK S s) (exV S s (sL S s)) (exV S s (sR S s)) → ∃ st' : St, lp_X8_run_19 m (nI (s + 1)) (up st 75 (sT S s) v) = some (st 70 19, st') ∧ (∀ v, v < 7 → st' 75 v = exV S (sN S) v) ∧ ∀ k, k ≠ 75 → st' k = st k := by
        intro v hv
        obtain ⟨st', k1, k2, k3⟩ := ih (s + 1) (up st 75 (sT S s) v) (by omega) (by omega) (by simp only [up_app]; exact h70) (by
          intro i hi
          simp only [up_app]
          exact hrep i hi) (by
          intro u hu
          rw [up_row, if_pos rfl, hv]
          show upd (st 75) (sT S s) _ u = upd (exV S s) (sT S s) _ u
          rw [upd_app, upd_app, h75 u hu])
        refine ⟨st', k1, k2, fun k hk => ?_⟩
        rw [k3 k hk, up_row, if_neg hk]
      generalize hkk : sK S s = q at *
      rcases (show q = 0 ∨ q = 1 ∨ q = 2 ∨ q = 3 ∨ q = 4 by omega) with rfl | rfl | rfl | rfl | rfl
      · rw [if_pos (by rfl)]; exact key _ rfl
      · rw [if_neg (by decide), if_pos (by rfl)]; exact key _ rfl
      · rw [if_neg (by decide), if_neg (by decide), if_pos (by rfl)]; exact key _ rfl
      · rw [if_neg (by decide), if_neg (by decide), if_neg (by decide), if_pos (by rfl)]; exact key _ rfl
      · rw [if_neg (by decide), if_neg (by decide), if_neg (by decide), if_neg (by decide)]
        have e := le_min (exV S s (sL S s)) (exV S s (sR S s))
        by_cases c : exV S s (sR S s) ≤ exV S s (sL S s)
        · rw [if_pos c]
          rw [if_pos c] at e
          exact key _ e
        · rw [if_neg c]
          rw [if_neg c] at e
          exact key _ e
theorem planA_ex {S : Sn} {r : Nat} {mode : Bool} : planA (runS S) r mode = planA S r mode := by
  rw [← planA_pg (S := runS S), ← planA_pg (S := S)]
  rfl
theorem ok_run {st : St} {N : Nat} (hN : 6000 ≤ N) (hI : Inv st) (v1 v2 : Int32) : Ok (F_X7_run N v1 v2) (F_X8_run N v1 v2) st := by
  have hI0 := hI
  obtain ⟨S, kp, SI, hI⟩ := hI
  have hS := hI.1
  have hn10 := hS.1
  rcases asked_c v1 v2 with ⟨r, b, r1, r3, rfl, rfl, h1, h2⟩ | ⟨h1, h2⟩
  · obtain ⟨s0, z1, z2, z3⟩ := exX (N := N) (by omega) hS hI.2.1
    have hC0 : Cache (runS S) s0 := Cache.vh (hI.2.2.2.1.kept (fun k hk => z3 k (by rintro rfl; revert hk; decide))) rfl rfl rfl
    obtain ⟨sa, a1, ⟨a2, a3⟩, a4, a5⟩ := planForC (N := N) (S := runS S) (mode := b) (by omega) (runS_ok hS) z2 hC0 r1 r3
    have hM0 : ModRep S s0 := hI.2.2.1.kept (by rw [z3 70 (by decide)]) (z3 _ (by decide)) (z3 _ (by decide)) (z3 _ (by decide)) (z3 _ (by decide)) (z3 _ (by decide)) (z3 _ (by decide)) (z3 _ (by decide))
    have hMa : ModRep S sa := a3.mod hM0
    have hCa : Cache S sa := Cache.vh a4 rfl rfl rfl
    obtain ⟨sb, b1, b2, b3, b4⟩ := layPlanC (N := N) (mode := b) hN hS hMa hCa r1 r3
    have hMb := b2.mod hMa
    obtain ⟨sc, d1, d2, d3⟩ := runM_lp hS N 0 sb (by omega) (by omega) hMb.1 hMb.2.1 (fun v hv => (hMb.2.2.1 v hv).1)
    have hK : KF s0 sb := a3.trans b2
    have e0 : ∀ k, k ∈ kIds → k ≠ 75 → k ≠ 6 → sc k = st k := fun k hk h75 h6 => by rw [d3 k h75, hK.2 k hk, z3 k h6]
    refine ⟨nI (planA S r b).1, sa, sc, ?_, ?_, runS S, kp, SI, runS_ok hS, ?_, ?_, ?_, ?_, ?_, ?_⟩
    · unfold F_X7_run
      rw [h1, bs_s, if_neg e10, z1, bs_s, a1, bd_s, ck_d (plI_kd r1 r3).1, a5.1, planA_ex]
    · unfold F_X8_run
      rw [h2, bs_s, if_neg e10, b1, bs_s, lt_eq, L0, d1, b4.1]
    · have f : ∀ k, k ∈ kIds → k ≠ 75 → sc k = s0 k := fun k hk h75 => by rw [d3 k h75, hK.2 k hk]
      exact z2.kept (f _ (by decide) (by decide)) (f _ (by decide) (by decide)) (f _ (by decide) (by decide)) (f _ (by decide) (by decide)) (f _ (by decide) (by decide)) (f _ (by decide) (by decide)) (f _ (by decide) (by decide))
    · refine ⟨?_, ?_, ?_, ?_⟩
      · rw [d3 70 (by decide)]; exact hMb.1
      · intro i hi
        rw [d3 71 (by decide), d3 72 (by decide), d3 73 (by decide), d3 74 (by decide)]
        exact hMb.2.1 i hi
      · intro v hv
        refine ⟨d2 v hv, ?_⟩
        rw [d3 76 (by decide)]
        exact (hMb.2.2.1 v hv).2
      · intro v hv
        rw [d3 77 (by decide)]
        exact hMb.2.2.2 v hv
    · exact Cache.vh (b3.kept (fun k hk => d3 k (by rintro rfl; revert hk; decide))) rfl rfl rfl
    · rw [e0 0 (by decide) (by decide) (by decide)]; exact hI.2.2.2.2.1
    · intro j hj
      rw [e0 94 (by decide) (by decide) (by decide)]
      exact hI.2.2.2.2.2.1 j hj
    · intro j hj hp
      obtain ⟨q1, q2, q3⟩ := hI.2.2.2.2.2.2 j hj hp
      refine ⟨q1, ?_, q3.kept (e0 93 (by decide) (by decide) (by decide))⟩
      rcases (show j = 0 ∨ j = 1 by omega) with rfl | rfl
      · exact q2.kept (e0 8 (by decide) (by decide) (by decide)) (e0 9 (by decide) (by decide) (by decide)) (e0 10 (by decide) (by decide) (by decide)) (e0 11 (by decide) (by decide) (by decide)) (e0 12 (by decide) (by decide) (by decide)) (e0 13 (by decide) (by decide) (by decide)) (e0 14 (by decide) (by decide) (by decide))
      · exact q2.kept (e0 15 (by decide) (by decide) (by decide)) (e0 16 (by decide) (by decide) (by decide)) (e0 17 (by decide) (by decide) (by decide)) (e0 18 (by decide) (by decide) (by decide)) (e0 19 (by decide) (by decide) (by decide)) (e0 20 (by decide) (by decide) (by decide)) (e0 21 (by decide) (by decide) (by decide))
  · refine Ok.same hI0 (-2) ?_ ?_
    · unfold F_X7_run
      rw [h1, bs_s, if_pos (by rfl)]
    · unfold F_X8_run
      rw [h2, bs_s, if_pos (by rfl)]
