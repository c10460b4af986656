def chg : List Nat := [1, 2, 3, 4, 5, 6, 7, 27, 38, 41, 44, 47, 50, 53, 57, 58, 60, 61, 70, 71, 72, 73, 74, 75, 76, 77, 78]
/-- the program, the free set, values, cells by hand are other ones, the caches are empty, all else is as it was -/
theorem inv_done {S S' : Sn} {kp : Nat → Bool} {SI : Nat → Sn} {st st2 : St} (hI : InvS S kp SI st) (hS' : SnOk S') (h1 : ClsRep 1 S' st2) (h2 : ModRep S' st2) (h3 : ∀ a b, a < 8 → b < 8 → st2 27 (a * 8 + b) = bi (decide (a < 7) && decide (b < 7) && far (sF S') a b)) (h4 : ∀ q, q < 6 → st2 (38 + 3 * q) 0 = 0) (h5 : ∀ (q c : Nat), q < 2 → c < 128 → st2 (57 + q) c = 1 ∧ st2 (60 + q) c = -1) (h6 : ∀ m, m < 2 → st2 78 m = 1) (hk : ∀ k, k ∉ chg → st2 k = st k) : InvS S' kp SI st2 := by
  obtain ⟨a1, a2, a3, a4, a5, a6, a7⟩ := hI
  have hs : ScrOk st2 := by
    exact a4.2.1.kept (hk 34 (by decide)) (hk 62 (by decide)) (fun p hp => hk _ (by
      simp only [chg, List.mem_cons, List.not_mem_nil, or_false, not_or]
      omega))
  refine ⟨hS', h1, h2, cache_new hS' h3 h4 h5 hs h6 (fun set mode => opt_pos (pg_ok hS') set mode), ?_, ?_, ?_⟩
  · rw [hk 0 (by decide)]; exact a5
  · intro j hj; rw [hk 94 (by decide)]; exact a6 j hj
  · intro j hj hp
    obtain ⟨b1, b2, b3⟩ := a7 j hj hp
    refine ⟨b1, ?_, b3.kept (hk 93 (by decide))⟩
    rcases (show j = 0 ∨ j = 1 by omega) with rfl | rfl
    · exact b2.kept (hk 8 (by decide)) (hk 9 (by decide)) (hk 10 (by decide)) (hk 11 (by decide)) (hk 12 (by decide)) (hk 13 (by decide)) (hk 14 (by decide))
    · exact b2.kept (hk 15 (by decide)) (hk 16 (by decide)) (hk 17 (by decide)) (hk 18 (by decide)) (hk 19 (by decide)) (hk 20 (by decide)) (hk 21 (by decide))
theorem far_z {S : Sn} {st : St} (h : Cache S st) : ∀ a b, a < 8 → b < 8 → (a = 7 ∨ b = 7) → st 27 (a * 8 + b) = 0 := by
  intro a b ha hb h7
  rw [h.1 a b ha hb]
  rcases h7 with rfl | rfl <;> simp [bi]
/-- changed(), behind a change of the class's State alone -/
theorem changed_of {S S' : Sn} {kp : Nat → Bool} {SI : Nat → Sn} {st stA : St} {N : Nat} (hN : 129 ≤ N) (hI : InvS S kp SI st) (hS' : SnOk S') (hr : ClsRep 1 S' stA) (hA : ∀ k, k ∉ [1, 2, 3, 4, 5, 6, 7] → stA k = st k) : ∃ st1 : St, F_X7_changed N stA = some st1 ∧ ClsRep 1 S' st1 ∧ (∀ a b, a < 8 → b < 8 → st1 27 (a * 8 + b) = bi (decide (a < 7) && decide (b < 7) && far (sF S') a b)) ∧ (∀ q, q < 6 → st1 (38 + 3 * q) 0 = 0) ∧ (∀ (q c : Nat), q < 2 → c < 128 → st1 (57 + q) c = 1 ∧ st1 (60 + q) c = -1) ∧ (∀ k, k ∉ [1, 2, 3, 4, 5, 6, 7, 27, 38, 41, 44, 47, 50, 53, 57, 58, 60, 61] → st1 k = st k) ∧ st1 1 = stA 1 := by
  obtain ⟨st1, e1, e2, e3, e4, e5⟩ := changedX (st := stA) hN hS'.2.2.1 hr.2.2.1 (by
    intro a b ha hb h7
    rw [hA 27 (by decide)]
    exact far_z hI.2.2.2.1 a b ha hb h7)
  refine ⟨st1, e1, hr.kept (e5 1 (by decide)) (e5 2 (by decide)) (e5 3 (by decide)) (e5 4 (by decide)) (e5 5 (by decide)) (e5 6 (by decide)) (e5 7 (by decide)), e2, e3, e4, ?_, e5 1 (by decide)⟩
  intro k hk
  simp only [List.mem_cons, List.not_mem_nil, or_false, not_or] at hk
  rw [e5 k (by simp only [List.mem_cons, List.not_mem_nil, or_false, not_or]; omega), hA k (by simp only [List.mem_cons, List.not_mem_nil, or_false, not_or]; omega)]
theorem not_chg {k : Nat} (h : k ∉ chg) : k ∉ [1, 2, 3, 4, 5, 6, 7, 27, 38, 41, 44, 47, 50, 53, 57, 58, 60, 61] ∧ k ∉ [70, 71, 72, 73, 74, 75, 76, 77, 78] := by
  unfold chg at h
  simp only [List.mem_cons, List.not_mem_nil, or_false, not_or] at h ⊢
  omega
-- put
def addS (S : Sn) (k t l r : Nat) : Sn := (S.1 + 1, fun i => if i = S.1 then (k, t, l, r) else S.2.1 i, S.2.2)
theorem appX {st : St} {n k t l r : Nat} (h : st 1 0 = nI n) (hn : n < 10) : F_X5_append (nI k) (nI t) (nI l) (nI r) st = some (up (up (up (up (up st 2 n (nI k)) 3 n (nI t)) 4 n (nI l)) 5 n (nI r)) 1 0 (nI (n + 1))) := by
  unfold F_X5_append
  simp only [lt_eq, h, up_app, nI_clamp (show n < 2 ^ 31 by omega), ck_in hn (show (10 : Nat) < 2 ^ 31 by decide), nI_1, Nat.reduceEqDiff, reduceIte]
theorem add_ok {S : Sn} {k t l r : Nat} (hS : SnOk S) (hn : sN S < 10) (hk : k ≤ 4) (ht : t < 7) (hl : l < 7) (hr : r < 7) (h0 : k = 0 → r = l) : SnOk (addS S k t l r) := by
  refine ⟨by show sN S + 1 ≤ 10; omega, ?_, hS.2.2.1, hS.2.2.2.1, hS.2.2.2.2⟩
  intro i hi
  have hi : i < sN S + 1 := hi
  unfold addS sK sT sL sR
  by_cases e : i = S.1
  · simp only [e, if_true]
    exact ⟨hk, ht, hl, hr, h0⟩
  · simp only [e, if_false]
    have : i < sN S := by unfold sN at *; omega
    exact hS.2.1 i this
theorem add_at {S : Sn} {k t l r i : Nat} (h : i < sN S) : sK (addS S k t l r) i = sK S i ∧ sT (addS S k t l r) i = sT S i ∧ sL (addS S k t l r) i = sL S i ∧ sR (addS S k t l r) i = sR S i := by
  have e : i ≠ S.1 := by unfold sN at h; omega
  unfold addS sK sT sL sR
  simp [e]
theorem add_new {S : Sn} {k t l r : Nat} : sK (addS S k t l r) (sN S) = k ∧ sT (addS S k t l r) (sN S) = t ∧ sL (addS S k t l r) (sN S) = l ∧ sR (addS S k t l r) (sN S) = r := by
  unfold addS sK sT sL sR sN
  simp
theorem put_do {S : Sn} {kp : Nat → Bool} {SI : Nat → Sn} {st : St} {N k t l r : Nat} (hN : 129 ≤ N) (hI : InvS S kp SI st) (hn : sN S < 10) (hk : k ≤ 4) (ht : t < 7) (hl : l < 7) (hr : r < 7) (h0 : k = 0 → r = l) : ∃ stA st1 st2 : St, F_X5_append (nI k) (nI t) (nI l) (nI r) st = some stA ∧ F_X7_changed N stA = some st1 ∧ st1 1 0 = nI (sN S + 1) ∧ st1 70 0 = nI (sN S) ∧ st2 = up (up (up (up (up (up (up st1 71 (sN S) (nI k)) 72 (sN S) (nI t)) 73 (sN S) (nI l)) 74 (sN S) (nI r)) 78 0 1) 78 1 1) 70 0 (nI (sN S + 1)) ∧ InvS (addS S k t l r) kp SI st2 := by
  have hS' := add_ok hI.1 hn hk ht hl hr h0
  obtain ⟨c1, c2, c3, c4⟩ := id hI.2.1
  have hrep : ClsRep 1 (addS S k t l r) (up (up (up (up (up st 2 (sN S) (nI k)) 3 (sN S) (nI t)) 4 (sN S) (nI l)) 5 (sN S) (nI r)) 1 0 (nI (sN S + 1))) := by
    refine ⟨rfl, ?_, ?_, ?_⟩
    · intro i hi
      have hi : i < sN S + 1 := hi
      simp only [up_app]
      by_cases e : i = sN S
      · subst e
        obtain ⟨a1, a2, a3, a4⟩ := add_new (S := S) (k := k) (t := t) (l := l) (r := r)
        rw [a1, a2, a3, a4]
        simp
      · obtain ⟨a1, a2, a3, a4⟩ := add_at (k := k) (t := t) (l := l) (r := r) (show i < sN S by omega)
        rw [a1, a2, a3, a4]
        simp [e]
        exact c2 i (by omega)
    · simp only [up_app]
      exact c3
    · intro v hv
      simp only [up_app]
      exact c4 v hv
  obtain ⟨st1, e1, e2, e3, e4, e5, e6, e7⟩ := changed_of hN hI hS' hrep (by
    intro q hq
    simp only [List.mem_cons, List.not_mem_nil, or_false, not_or] at hq
    simp only [up_row]
    simp [hq])
  obtain ⟨m1, m2, m3, m4⟩ := id hI.2.2.1
  refine ⟨_, st1, _, appX c1 hn, e1, by rw [e7]; rfl, by rw [e6 70 (by decide)]; exact m1, rfl, ?_⟩
  refine inv_done hI hS' ?_ ?_ ?_ ?_ ?_ ?_ ?_
  · exact e2.kept (by simp [up_row]) (by simp [up_row]) (by simp [up_row]) (by simp [up_row]) (by simp [up_row]) (by simp [up_row]) (by simp [up_row])
  · refine ⟨rfl, ?_, ?_, ?_⟩
    · intro i hi
      have hi : i < sN S + 1 := hi
      simp only [up_app]
      by_cases e : i = sN S
      · subst e
        obtain ⟨a1, a2, a3, a4⟩ := add_new (S := S) (k := k) (t := t) (l := l) (r := r)
        rw [a1, a2, a3, a4]
        simp
      · obtain ⟨a1, a2, a3, a4⟩ := add_at (k := k) (t := t) (l := l) (r := r) (show i < sN S by omega)
        rw [a1, a2, a3, a4]
        simp [e]
        rw [e6 71 (by decide), e6 72 (by decide), e6 73 (by decide), e6 74 (by decide)]
        exact m2 i (by omega)
    · intro v hv
      simp only [up_app]
      rw [e6 75 (by decide), e6 76 (by decide)]
      exact m3 v hv
    · intro v hv
      simp only [up_app]
      rw [e6 77 (by decide)]
      exact m4 v hv
  · intro a b ha hb
    simp only [up_app]
    exact e3 a b ha hb
  · intro q hq
    rw [← e4 q hq]
    simp only [up_app]
    rcases (show q = 0 ∨ q = 1 ∨ q = 2 ∨ q = 3 ∨ q = 4 ∨ q = 5 by omega) with rfl | rfl | rfl | rfl | rfl | rfl <;> rfl
  · intro q c hq hc
    obtain ⟨z1, z2⟩ := e5 q c hq hc
    simp only [up_app]
    rcases (show q = 0 ∨ q = 1 by omega) with rfl | rfl <;> exact ⟨z1, z2⟩
  · intro m hm
    simp only [up_app]
    rcases (show m = 0 ∨ m = 1 by omega) with rfl | rfl <;> simp
  · intro q hq
    obtain ⟨h1, h2⟩ := not_chg hq
    rw [← e6 q h1]
    simp only [List.mem_cons, List.not_mem_nil, or_false, not_or] at h2
    simp only [up_row]
    simp [h2]
