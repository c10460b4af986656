theorem costRow_pgf {S : Sn} {set : Nat} {mode : Bool} : costRow (pg S) set mode = costRow S set mode := funext costRow_pg
theorem opt_pg {S : Sn} {set : Nat} {mode : Bool} : opt (pg S) set mode = opt S set mode := by
  unfold opt
  rw [costRow_pgf]
theorem bi_t (b : Bool) : bi b = nI b.toNat := by cases b <;> rfl
theorem mems_ne {set : Nat} (h0 : 0 < set) (h1 : set < 128) : 1 ≤ (mems set).length := by
  obtain ⟨v, hv, hb⟩ := set_pos set h1 h0
  have := List.length_pos_of_mem (mems_mem.mpr ⟨hv, hb⟩)
  omega
/-- the reference has laid this set -/
def Laid (S : Sn) (mode : Bool) (set : Nat) (st : St) : Prop := st 82 (128 * mode.toNat + set) = nI (opt S set mode).1 ∧ ∀ v, v < 7 → set.testBit v = true → st 83 (7 * (128 * mode.toNat + set) + v) = nI (cellOf (mems set) (opt S set mode).2 v)
theorem laySetM {S : Sn} {set N : Nat} {mode : Bool} {st : St} (hN : 6000 ≤ N) (hS : SnOk S) (h0 : 0 < set) (hset : set < 128) (hM : ModRep S st) : ∃ st' : St, F_X8_laySet N (nI set) (bi mode) st = some st' ∧ Laid S mode set st' ∧ LFr (128 * mode.toNat + set) st st' := by
  have hat : 128 * mode.toNat + set < 256 := by cases mode <;> simp <;> omega
  have hn := mems_len set
  have h1 := mems_ne h0 hset
  generalize hat2 : 128 * mode.toNat + set = at' at *
  obtain ⟨g, h, a1, a2⟩ := lsA_lp (st := st) hset (fun (v29 : Int32) (s30 : St) => lt (((128 : Int32) * (bi mode)) + nI set) (fun (v31 : Int32) => ck (inb v31 256) (lt (up s30 82 v31.toNatClampNeg (-6 : Int32)) (fun (s32 : St) => lt (1 : Int32) (fun (v33 : Int32) => lp_X8_laySet_66 N (nI set) (bi mode) v29 v31 N v33 s32))))) N 0 (st 84) (st 85) (by omega) (by omega) (fun k hk => by simp [msK] at hk)
  have e0 : upr (upr st 84 (st 84)) 85 (st 85) = st := by
    rw [upr_id]
    exact upr_id
  rw [e0, show nI (msK set 0).length = 0 from rfl, nI0] at a1
  generalize hs1 : up (upr (upr st 84 g) 85 h) 82 at' (-6) = s1
  have f1 : LFr at' st s1 := by
    rw [← hs1]
    refine ⟨fun k hk => ?_, fun j hj => ?_, fun i hi => ?_, fun i hi => ?_⟩
    · simp only [List.mem_cons, List.not_mem_nil, or_false, not_or] at hk
      rw [up_row, if_neg hk.2.2.2.1, upr_app, if_neg hk.2.2.2.2.2.2, upr_app, if_neg hk.2.2.2.2.2.1]
    · simp only [up_row, upr_app, Nat.reduceEqDiff, if_false]
    · simp only [up_row, upr_app, Nat.reduceEqDiff, if_false, if_true]
      rw [upd_app, if_neg hi]
    · simp only [up_row, upr_app, Nat.reduceEqDiff, if_false]
  obtain ⟨t, ht⟩ := perms_hd (mems set).length h1 hn
  have hlen := perms_len (mems set).length hn
  rw [ht, List.length_cons] at hlen
  have hchk := chk_ok (mems set).length h1 hn
  rw [ht] at hchk
  obtain ⟨st', b1, b2, b3⟩ := laySet_lp (S := S) (set := set) (n := (mems set).length) (at' := at') (N := N) (mode := mode) (by omega) hS hset rfl h1 (by omega) hat t (List.range (mems set).length) N none s1 hchk (fun q hq => perms_ok (by rw [ht]; exact hq)) (by omega) (f1.mod hM) (by
    intro k hk
    rw [← hs1]
    simp only [up_row, upr_app, Nat.reduceEqDiff, if_false, if_true]
    exact (a2 k hk).1) (by
    intro k hk
    rw [← hs1]
    simp only [up_row, upr_app, Nat.reduceEqDiff, if_false, if_true]
    rw [(a2 k hk).2, List.getD_eq_getElem?_getD, List.getElem?_range hk]
    rfl) (by
    show s1 82 at' = -6
    rw [← hs1, up_row, if_pos rfl, upd_app, if_pos rfl])
  rw [← ht] at b2
  obtain ⟨p, p1, -⟩ := fm_none (f := costRow S set mode) (perms_ne _ (mems_len set))
  have hopt : opt S set mode = p := by
    unfold opt
    rw [p1]
    rfl
  rw [p1] at b2
  refine ⟨st', ?_, ⟨?_, ?_⟩, f1.trans b3⟩
  · unfold F_X8_laySet
    rw [lt_eq, lt_eq, a1, lt_eq, bi_t, L128, pk_mul, nI_add, hat2, ck_in hat (by decide), nI_clamp (by omega), lt_eq, lt_eq, hs1, ← bi_t]
    exact b1
  · rw [hopt, hat2]
    exact b2.2.1
  · intro v hv hb
    obtain ⟨i1, i2⟩ := idx_getD (mems_mem.mpr ⟨hv, hb⟩)
    have := b2.2.2 _ i1
    rw [i2] at this
    rw [hat2, this, hopt]
    rfl
theorem subI : ∀ a, a < 128 → ∀ b, b < 128 → ((nI a &&& (nI b ^^^ (-1 : Int32))) = 0 ↔ sub a b = true) := by decide +kernel
def SFr (mode : Bool) (st st' : St) : Prop := (∀ k, k ∉ [70, 80, 81, 82, 83, 84, 85] → st' k = st k) ∧ (∀ j, j ≠ 12 → st' 70 j = st 70 j) ∧ (∀ i, (i ≤ 128 * mode.toNat ∨ 128 * mode.toNat + 128 ≤ i) → st' 82 i = st 82 i) ∧ ∀ i, (i < 7 * (128 * mode.toNat) ∨ 7 * (128 * mode.toNat + 128) ≤ i) → st' 83 i = st 83 i
theorem SFr.trans {a : Bool} {x y z : St} (h1 : SFr a x y) (h2 : SFr a y z) : SFr a x z := ⟨fun k hk => by rw [h2.1 k hk, h1.1 k hk], fun j hj => by rw [h2.2.1 j hj, h1.2.1 j hj], fun i hi => by rw [h2.2.2.1 i hi, h1.2.2.1 i hi], fun i hi => by rw [h2.2.2.2 i hi, h1.2.2.2 i hi]⟩
theorem SFr.mod {a : Bool} {S : Sn} {x y : St} (h : SFr a x y) (hm : ModRep S x) : ModRep S y := hm.kept (h.2.1 0 (by decide)) (h.1 _ (by decide)) (h.1 _ (by decide)) (h.1 _ (by decide)) (h.1 _ (by decide)) (h.1 _ (by decide)) (h.1 _ (by decide)) (h.1 _ (by decide))
theorem Laid.kept {S : Sn} {mode : Bool} {set : Nat} {st st' : St} {at' : Nat} (h : Laid S mode set st) (hf : LFr at' st st') (hne : at' ≠ 128 * mode.toNat + set) : Laid S mode set st' := by
  refine ⟨?_, fun v hv hb => ?_⟩
  · rw [hf.2.2.1 _ (fun q => hne q.symm)]
    exact h.1
  · rw [hf.2.2.2 _ (by omega)]
    exact h.2 v hv hb
theorem laySets_lp {S : Sn} {N : Nat} {mode : Bool} (hN : 6000 ≤ N) (hS : SnOk S) : ∀ (m set : Nat) (st : St), 1 ≤ set → set ≤ 128 → 128 - set < m → ModRep S st → (∀ s, 0 < s → s < set → sub s (usedS S) = true → Laid S mode s st) → ∃ st' : St, lp_X8_laySets_34 N (bi mode) (nI (usedS S)) m (nI set) st = some st' ∧ (∀ s, 0 < s → s < 128 → sub s (usedS S) = true → Laid S mode s st') ∧ SFr mode st st' := by
  intro m
  induction m with
  | zero => intro set st h1 h2 h3; omega
  | succ m ih =>
    intro set st h1 h2 h3 hM hL
    change ∃ st' : St, lpB_X8_laySets_34 N (bi mode) (nI (usedS S)) (lp_X8_laySets_34 N (bi mode) (nI (usedS S)) m) (nI set) st = _ ∧ _
    unfold lpB_X8_laySets_34
    by_cases h : set = 128
    · subst h
      rw [if_pos (by decide)]
      exact ⟨st, rfl, hL, fun _ _ => rfl, fun _ _ => rfl, fun _ _ => rfl, fun _ _ => rfl⟩
    · have hset : set < 128 := by omega
      rw [if_neg (by rw [L128]; exact nI_ge hset (by decide))]
      by_cases hs : sub set (usedS S) = true
      · rw [if_pos ((subI set hset _ (used_lt hS)).mpr hs)]
        obtain ⟨s1, a1, a2, a3⟩ := laySetM (mode := mode) hN hS (show 0 < set by omega) hset hM
        rw [a1, bs_s, lt_eq, nI_1]
        obtain ⟨st', b1, b2, b3⟩ := ih (set + 1) s1 (by omega) (by omega) (by omega) (a3.mod hM) (by
          intro s s0 s1 s2
          by_cases e : s = set
          · rw [e]; exact a2
          · exact (hL s s0 (by omega) s2).kept a3 (by omega))
        refine ⟨st', b1, b2, SFr.trans ⟨a3.1, a3.2.1, fun i hi => a3.2.2.1 i (by omega), fun i hi => a3.2.2.2 i (by omega)⟩ b3⟩
      · rw [if_neg (fun q => hs ((subI set hset _ (used_lt hS)).mp q)), lt_eq, nI_1]
        refine ih (set + 1) st (by omega) (by omega) (by omega) hM ?_
        intro s s0 s1 s2
        by_cases e : s = set
        · rw [e] at s2; exact absurd s2 hs
        · exact hL s s0 (by omega) s2
theorem Cache.mod {S : Sn} {st st' : St} (h : Cache S st) (hk : ∀ k, k ∈ cIds → k ≠ 78 → k ≠ 82 → k ≠ 83 → st' k = st k) (hm : ModOk (pg S) st') : Cache S st' := by
  obtain ⟨h1, h2, h3, h4, h5⟩ := h
  refine ⟨?_, ?_, ?_, ?_, hm⟩
  · unfold FarOk at *
    rw [hk 27 (by decide) (by decide) (by decide) (by decide)]
    exact h1
  · exact h2.kept (hk 34 (by decide) (by decide) (by decide) (by decide)) (hk 62 (by decide) (by decide) (by decide) (by decide)) (fun p hp => hk _ (by
      simp only [cIds, List.mem_cons, List.not_mem_nil, or_false]
      omega) (by omega) (by omega) (by omega))
  · intro mode set a b c
    have e1 : st' (57 + mode.toNat) = st (57 + mode.toNat) := by cases mode <;> exact hk _ (by decide) (by decide) (by decide) (by decide)
    have e2 : st' (60 + mode.toNat) = st (60 + mode.toNat) := by cases mode <;> exact hk _ (by decide) (by decide) (by decide) (by decide)
    rw [e1, e2]
    exact h3 mode set a b c
  · intro r mode a b
    have e1 : st' (38 + 3 * (2 * (r - 1) + mode.toNat)) = st (38 + 3 * (2 * (r - 1) + mode.toNat)) := by rcases (show r = 1 ∨ r = 2 ∨ r = 3 by omega) with rfl | rfl | rfl <;> cases mode <;> exact hk _ (by decide) (by decide) (by decide) (by decide)
    have e2 : st' (38 + 3 * (2 * (r - 1) + mode.toNat) + 1) = st (38 + 3 * (2 * (r - 1) + mode.toNat) + 1) := by rcases (show r = 1 ∨ r = 2 ∨ r = 3 by omega) with rfl | rfl | rfl <;> cases mode <;> exact hk _ (by decide) (by decide) (by decide) (by decide)
    have e3 : st' (38 + 3 * (2 * (r - 1) + mode.toNat) + 2) = st (38 + 3 * (2 * (r - 1) + mode.toNat) + 2) := by rcases (show r = 1 ∨ r = 2 ∨ r = 3 by omega) with rfl | rfl | rfl <;> cases mode <;> exact hk _ (by decide) (by decide) (by decide) (by decide)
    rw [e1, e2, e3]
    exact h4 r mode a b
def Good (S : Sn) (mode : Bool) (st : St) : Prop := st 82 (128 * mode.toNat) = 0 ∧ ∀ s, 0 < s → s < 128 → sub s (usedS S) = true → Laid S mode s st
/-- what no call of the reference's plan changes -/
def KF (st st' : St) : Prop := st' 70 0 = st 70 0 ∧ ∀ k, k ∈ kIds → st' k = st k
theorem KF.trans {x y z : St} (h1 : KF x y) (h2 : KF y z) : KF x z := ⟨h2.1.trans h1.1, fun k hk => (h2.2 k hk).trans (h1.2 k hk)⟩
theorem KF.mod {S : Sn} {x y : St} (h : KF x y) (hm : ModRep S x) : ModRep S y := hm.kept h.1 (h.2 _ (by decide)) (h.2 _ (by decide)) (h.2 _ (by decide)) (h.2 _ (by decide)) (h.2 _ (by decide)) (h.2 _ (by decide)) (h.2 _ (by decide))
theorem KF.look {x y : St} (h70 : y 70 0 = x 70 0) (hk : ∀ k, k ∉ sIds → y k = x k) : KF x y := ⟨h70, fun k a => hk k (k_s a)⟩
theorem laySetsC {S : Sn} {st : St} {N : Nat} {mode : Bool} (hN : 6000 ≤ N) (hS : SnOk S) (hM : ModRep S st) (hC : Cache S st) : ∃ st' : St, F_X8_laySets N (bi mode) st = some st' ∧ KF st st' ∧ Cache S st' ∧ Good S mode st' := by
  have hinb : inb (bi mode) 2 = true := by cases mode <;> rfl
  have hcl : (bi mode).toNatClampNeg = mode.toNat := by cases mode <;> rfl
  have hmod := hC.2.2.2.2
  have hgood : st 78 mode.toNat = 0 → Good S mode st := by
    intro h0
    rcases hmod mode with h | ⟨-, h2, h3⟩
    · rw [h0] at h; cases h
    · refine ⟨h2, fun s s0 s1 s2 => ?_⟩
      have := h3 s s0 s1 s2
      rw [opt_pg] at this
      exact this
  unfold F_X8_laySets
  rw [hinb, ck_t, hcl]
  by_cases h0 : st 78 mode.toNat = 0
  · rw [if_pos h0]
    exact ⟨st, rfl, ⟨rfl, fun _ _ => rfl⟩, hC, hgood h0⟩
  · rw [if_neg h0, ck_t, lt_eq, nb0]
    have hM1 : ModRep S (up st 78 mode.toNat 0) := hM.kept (by simp [up_row]) (by simp [up_row]) (by simp [up_row]) (by simp [up_row]) (by simp [up_row]) (by simp [up_row]) (by simp [up_row]) (by simp [up_row])
    obtain ⟨g, a1⟩ := onesM (N := N) (by omega) hS hM1
    rw [a1, bd_s, lt_eq, bi_t, L128, pk_mul, ck_in (by cases mode <;> simp) (by decide), nI_clamp (by cases mode <;> simp), lt_eq, lt_eq]
    generalize hs1 : up (upr (up st 78 mode.toNat 0) 79 g) 82 (128 * mode.toNat) 0 = s1
    have hM2 : ModRep S s1 := by
      rw [← hs1]
      exact hM1.kept (by simp [up_row, upr_app]) (by simp [up_row, upr_app]) (by simp [up_row, upr_app]) (by simp [up_row, upr_app]) (by simp [up_row, upr_app]) (by simp [up_row, upr_app]) (by simp [up_row, upr_app]) (by simp [up_row, upr_app])
    obtain ⟨st', b1, b2, b3⟩ := laySets_lp (N := N) (mode := mode) hN hS N 1 s1 (by omega) (by omega) (by omega) hM2 (fun s s0 s1 => by omega)
    have hg2 : Good S mode st' := by
      refine ⟨?_, b2⟩
      rw [b3.2.2.1 _ (Or.inl (Nat.le_refl _)), ← hs1, up_row, if_pos rfl, upd_app, if_pos rfl]
    have hall : ∀ k, k ∉ [70, 78, 79, 80, 81, 82, 83, 84, 85] → st' k = st k := by
      intro k hk
      simp only [List.mem_cons, List.not_mem_nil, or_false, not_or] at hk
      rw [b3.1 k (by simp only [List.mem_cons, List.not_mem_nil, or_false, not_or]; omega), ← hs1]
      rw [up_row, if_neg hk.2.2.2.2.2.1, upr_app, if_neg hk.2.2.1, up_row, if_neg hk.2.1]
    refine ⟨st', ?_, ⟨?_, ?_⟩, ?_, hg2⟩
    · rw [← bi_t, L1]; exact b1
    · rw [b3.2.1 0 (by decide), ← hs1]
      simp only [up_row, upr_app, Nat.reduceEqDiff, if_false]
    · intro k hk
      refine hall k ?_
      simp only [kIds, List.mem_cons, List.not_mem_nil, or_false] at hk
      simp only [List.mem_cons, List.not_mem_nil, or_false, not_or]
      omega
    · refine hC.mod ?_ ?_
      · intro k hk k1 k2 k3
        refine hall k ?_
        simp only [cIds, List.mem_cons, List.not_mem_nil, or_false] at hk
        simp only [List.mem_cons, List.not_mem_nil, or_false, not_or]
        omega
      · intro mo
        by_cases e : mo = mode
        · subst e
          refine Or.inr ⟨?_, hg2.1, fun s s0 s1 s2 => ?_⟩
          · rw [b3.1 78 (by decide), ← hs1]
            simp only [up_row, upr_app, Nat.reduceEqDiff, if_false, if_true]
            rw [upd_app, if_pos rfl]
          · rw [opt_pg]
            exact b2 s s0 s1 s2
        · have ht : mo.toNat ≠ mode.toNat := by cases mo <;> cases mode <;> simp_all
          have ht2 : mo.toNat < 2 := by cases mo <;> decide
          have ht3 : mode.toNat < 2 := by cases mode <;> decide
          have e78 : st' 78 mo.toNat = st 78 mo.toNat := by
            rw [b3.1 78 (by decide), ← hs1]
            simp only [up_row, upr_app, Nat.reduceEqDiff, if_false, if_true]
            rw [upd_app, if_neg ht]
          have e82 : ∀ s, s < 128 → st' 82 (128 * mo.toNat + s) = st 82 (128 * mo.toNat + s) := by
            intro s hs
            rw [b3.2.2.1 _ (by omega), ← hs1]
            simp only [up_row, upr_app, Nat.reduceEqDiff, if_false, if_true]
            rw [upd_app, if_neg (by omega)]
          have e83 : ∀ s v, s < 128 → v < 7 → st' 83 (7 * (128 * mo.toNat + s) + v) = st 83 (7 * (128 * mo.toNat + s) + v) := by
            intro s v hs hv
            rw [b3.2.2.2 _ (by omega), ← hs1]
            simp only [up_row, upr_app, Nat.reduceEqDiff, if_false]
          rcases hmod mo with h | ⟨h1, h2, h3⟩
          · exact Or.inl (by rw [e78]; exact h)
          · refine Or.inr ⟨by rw [e78]; exact h1, by have := e82 0 (by omega); rw [Nat.add_zero] at this; rw [this]; exact h2, fun s s0 s1 s2 => ?_⟩
            have h4 := h3 s s0 s1 s2
            refine ⟨by rw [e82 s s1]; exact h4.1, fun v hv hb => by rw [e83 s v s1 hv]; exact h4.2 v hv hb⟩
theorem InvS.kf {S : Sn} {kp : Nat → Bool} {SI : Nat → Sn} {st st' : St} (h : InvS S kp SI st) (hk : KF st st') (hc : Cache S st') : InvS S kp SI st' := h.kept hk.1 hc hk.2
