-- exchange
def exS (S : Sn) (a b : Nat) : Sn := (S.1, S.2.1, S.2.2.1, S.2.2.2.1, fun v => if v = b then sH S a else if v = a then sH S b else sH S v)
theorem ok_exchange {st : St} (hI : Inv st) (v1 v2 : Int32) : Ok (F_X7_exchange v1 v2) (F_X8_exchange v1 v2) st := by
  have hI0 := hI
  obtain ⟨S, kp, SI, hI⟩ := hI
  obtain ⟨c1, c2, c3, c4⟩ := id hI.2.1
  obtain ⟨m1, m2, m3, m4⟩ := id hI.2.2.1
  rcases var_c v1 with ⟨a, ha, rfl, t1, t2⟩ | ⟨t1, t2⟩
  · rcases var_c v2 with ⟨b, hb, rfl, l1, l2⟩ | ⟨l1, l2⟩
    · have hka : ∀ (x : Option (Int32 × St)), ck (inb (nI a) 7) x = x := fun x => ck_in ha (by decide) x
      have hkb : ∀ (x : Option (Int32 × St)), ck (inb (nI b) 7) x = x := fun x => ck_in hb (by decide) x
      have ea : (nI a).toNatClampNeg = a := nI_clamp (by omega)
      have eb : (nI b).toNatClampNeg = b := nI_clamp (by omega)
      have x1 : st 7 a = nI (sH S a) := (c4 a ha).2
      have x2 : st 7 b = nI (sH S b) := (c4 b hb).2
      have y1 : st 76 a = nI (sH S a) := (m3 a ha).2
      have y2 : st 76 b = nI (sH S b) := (m3 b hb).2
      refine ⟨if a = b then nI (sH S a) else nI (sH S b), up (up st 7 a (nI (sH S b))) 7 b (nI (sH S a)), up (up (up (up st 7 a (nI (sH S b))) 7 b (nI (sH S a))) 76 a (nI (sH S b))) 76 b (nI (sH S a)), ?_, ?_, exS S a b, kp, SI, ?_⟩
      · simp only [F_X7_exchange, t1, l1, bs_s, if_neg e10, hka, hkb, lt_eq, ea, eb, x1, x2, up_app, Nat.reduceEqDiff, reduceIte]
      · simp only [F_X8_exchange, t2, l2, bs_s, if_neg e10, hka, hkb, lt_eq, ea, eb, y1, y2, up_app, Nat.reduceEqDiff, reduceIte]
      · obtain ⟨a1, a2, a3, a4, a5, a6, a7⟩ := hI
        refine ⟨⟨a1.1, a1.2.1, a1.2.2.1, a1.2.2.2.1, ?_⟩, ⟨?_, ?_, ?_, ?_⟩, ⟨?_, ?_, ?_, ?_⟩, ?_, ?_, ?_, ?_⟩
        · intro v hv
          show (if v = b then sH S a else if v = a then sH S b else sH S v) < 7
          split
          · exact a1.2.2.2.2 a ha
          · split
            · exact a1.2.2.2.2 b hb
            · exact a1.2.2.2.2 v hv
        · simp only [up_app]; exact c1
        · intro i hi; simp only [up_app]; exact c2 i hi
        · simp only [up_app]; exact c3
        · intro v hv
          simp only [up_app]
          refine ⟨(c4 v hv).1, ?_⟩
          show _ = nI (if v = b then sH S a else if v = a then sH S b else sH S v)
          simp
          split
          · rfl
          · split
            · rfl
            · exact (c4 v hv).2
        · simp only [up_app]; exact m1
        · intro i hi; simp only [up_app]; exact m2 i hi
        · intro v hv
          simp only [up_app]
          refine ⟨(m3 v hv).1, ?_⟩
          show _ = nI (if v = b then sH S a else if v = a then sH S b else sH S v)
          simp
          split
          · rfl
          · split
            · rfl
            · exact (m3 v hv).2
        · intro v hv; simp only [up_app]; exact m4 v hv
        · refine Cache.kept (Cache.vh a4 rfl rfl rfl) ?_
          intro k hk
          simp only [up_row]
          simp only [cIds, List.mem_cons, List.not_mem_nil, or_false] at hk
          rw [if_neg (by omega), if_neg (by omega), if_neg (by omega), if_neg (by omega)]
        · simp only [up_app]; exact a5
        · intro j hj; simp only [up_app]; exact a6 j hj
        · intro j hj hp
          obtain ⟨b1, b2, b3⟩ := a7 j hj hp
          refine ⟨b1, ?_, b3.kept (by simp [up_row])⟩
          rcases (show j = 0 ∨ j = 1 by omega) with rfl | rfl
          · exact b2.kept (by simp [up_row]) (by simp [up_row]) (by simp [up_row]) (by simp [up_row]) (by simp [up_row]) (by simp [up_row]) (by simp [up_row])
          · exact b2.kept (by simp [up_row]) (by simp [up_row]) (by simp [up_row]) (by simp [up_row]) (by simp [up_row]) (by simp [up_row]) (by simp [up_row])
    · refine Ok.same hI0 (-1) ?_ ?_
      · simp only [F_X7_exchange, t1, l1, bs_s, if_neg e10, reduceIte]
      · simp only [F_X8_exchange, t2, l2, bs_s, if_neg e10, reduceIte]
  · refine Ok.same hI0 (-1) ?_ ?_
    · simp only [F_X7_exchange, t1, bs_s, reduceIte]
    · simp only [F_X8_exchange, t2, bs_s, reduceIte]
-- set
def cz (f : Nat → Int32) : Nat → Nat
  | 0 => 0
  | k + 1 => (if f (7 - (k + 1)) = 0 then 0 else 1) + cz f k
theorem set_lpX (st : St) : ∀ (m k a : Nat), k ≤ 7 → k < m → lp_X7_set_24 st m (nI a) (nI (7 - k)) = some (nI (a + cz (st 6) k), st) := by
  intro m
  induction m with
  | zero => intro k a h1 h2; omega
  | succ m ih =>
    intro k a h1 h2
    change lpB_X7_set_24 st (lp_X7_set_24 st m) (nI a) (nI (7 - k)) = _
    unfold lpB_X7_set_24
    rcases k with _ | k
    · rw [if_pos (by decide)]
      rfl
    · rw [if_neg (by rw [L7]; exact nI_ge (by omega) (by decide)), ck_in (by omega) (by decide), nI_clamp (by omega)]
      unfold cz
      have e : nI (7 - (k + 1)) + 1 = nI (7 - k) := by rw [nI_1]; congr 1; omega
      by_cases hz : st 6 (7 - (k + 1)) = 0
      · rw [if_pos hz, if_pos hz, lt_eq, e, ih k a (by omega) (by omega)]
        simp
      · rw [if_neg hz, if_neg hz, lt_eq, lt_eq, e, nI_1, ih k (a + 1) (by omega) (by omega), show a + 1 + cz (st 6) k = a + (1 + cz (st 6) k) by omega]
theorem set_lpM (st : St) : ∀ (m k a : Nat), k ≤ 7 → k < m → lp_X8_set_21 st m (nI a) (nI (7 - k)) = some (nI (a + cz (st 75) k), st) := by
  intro m
  induction m with
  | zero => intro k a h1 h2; omega
  | succ m ih =>
    intro k a h1 h2
    change lpB_X8_set_21 st (lp_X8_set_21 st m) (nI a) (nI (7 - k)) = _
    unfold lpB_X8_set_21
    rcases k with _ | k
    · rw [if_pos (by decide)]
      rfl
    · rw [if_neg (by rw [L7]; exact nI_ge (by omega) (by decide)), ck_in (by omega) (by decide), nI_clamp (by omega)]
      unfold cz
      have e : nI (7 - (k + 1)) + 1 = nI (7 - k) := by rw [nI_1]; congr 1; omega
      by_cases hz : st 75 (7 - (k + 1)) = 0
      · rw [if_pos hz, if_pos hz, lt_eq, lt_eq, e, L0, nI_add, ih k (a + 0) (by omega) (by omega)]
        simp
      · rw [if_neg hz, if_neg hz, lt_eq, lt_eq, e, nI_1, ih k (a + 1) (by omega) (by omega), show a + 1 + cz (st 75) k = a + (1 + cz (st 75) k) by omega]
theorem cz_congr {f g : Nat → Int32} (h : ∀ v, v < 7 → f v = g v) : ∀ k, k ≤ 7 → cz f k = cz g k := by
  intro k
  induction k with
  | zero => intro _; rfl
  | succ k ih =>
    intro hk
    unfold cz
    rw [ih (by omega), h (7 - (k + 1)) (by omega)]
def setS (S : Sn) (a : Nat) (x : Int32) : Sn := (S.1, S.2.1, S.2.2.1, upd (sV S) a x, S.2.2.2.2)
theorem ok_set {st : St} {N : Nat} (hN : 129 ≤ N) (hI : Inv st) (v1 v2 : Int32) : Ok (F_X7_set N v1 v2) (F_X8_set N v1 v2) st := by
  have hI0 := hI
  obtain ⟨S, kp, SI, hI⟩ := hI
  obtain ⟨c1, c2, c3, c4⟩ := id hI.2.1
  obtain ⟨m1, m2, m3, m4⟩ := id hI.2.2.1
  rcases var_c v1 with ⟨a, ha, rfl, t1, t2⟩ | ⟨t1, t2⟩
  · have hka : ∀ (x : Option (Int32 × St)), ck (inb (nI a) 7) x = x := fun x => ck_in ha (by decide) x
    have ea : (nI a).toNatClampNeg = a := nI_clamp (by omega)
    refine ⟨nI (0 + cz (up st 6 a v2 6) 7), up st 6 a v2, up (up st 6 a v2) 75 a v2, ?_, ?_, setS S a v2, kp, SI, ?_⟩
    · simp only [F_X7_set, t1, bs_s, if_neg e10, hka, lt_eq, ea]
      exact set_lpX (up st 6 a v2) N 7 0 (by omega) (by omega)
    · simp only [F_X8_set, t2, bs_s, if_neg e10, hka, lt_eq, ea]
      have e := set_lpM (up (up st 6 a v2) 75 a v2) N 7 0 (by omega) (by omega)
      rw [cz_congr (g := up st 6 a v2 6) (by
        intro v hv
        simp only [up_app]
        simp
        split
        · rfl
        · rw [(m3 v hv).1]; exact ((c4 v hv).1).symm) 7 (by omega)] at e
      exact e
    · obtain ⟨a1, a2, a3, a4, a5, a6, a7⟩ := hI
      refine ⟨a1, ⟨?_, ?_, ?_, ?_⟩, ⟨?_, ?_, ?_, ?_⟩, ?_, ?_, ?_, ?_⟩
      · simp only [up_app]; exact c1
      · intro i hi; simp only [up_app]; exact c2 i hi
      · simp only [up_app]; exact c3
      · intro v hv
        simp only [up_app]
        refine ⟨?_, (c4 v hv).2⟩
        show _ = upd (sV S) a v2 v
        rw [upd_app]
        simp
        split
        · rfl
        · exact (c4 v hv).1
      · simp only [up_app]; exact m1
      · intro i hi; simp only [up_app]; exact m2 i hi
      · intro v hv
        simp only [up_app]
        refine ⟨?_, (m3 v hv).2⟩
        show _ = upd (sV S) a v2 v
        rw [upd_app]
        simp
        split
        · rfl
        · exact (m3 v hv).1
      · intro v hv; simp only [up_app]; exact m4 v hv
      · refine Cache.kept (Cache.vh a4 rfl rfl rfl) ?_
        intro k hk
        simp only [up_row]
        simp only [cIds, List.mem_cons, List.not_mem_nil, or_false] at hk
        rw [if_neg (by omega), if_neg (by omega)]
      · simp only [up_app]; exact a5
      · intro j hj; simp only [up_app]; exact a6 j hj
      · intro j hj hp
        obtain ⟨b1, b2, b3⟩ := a7 j hj hp
        refine ⟨b1, ?_, b3.kept (by simp [up_row])⟩
        rcases (show j = 0 ∨ j = 1 by omega) with rfl | rfl
        · exact b2.kept (by simp [up_row]) (by simp [up_row]) (by simp [up_row]) (by simp [up_row]) (by simp [up_row]) (by simp [up_row]) (by simp [up_row])
        · exact b2.kept (by simp [up_row]) (by simp [up_row]) (by simp [up_row]) (by simp [up_row]) (by simp [up_row]) (by simp [up_row]) (by simp [up_row])
  · refine Ok.same hI0 (-1) ?_ ?_
    · simp only [F_X7_set, t1, bs_s, reduceIte]
    · simp only [F_X8_set, t2, bs_s, reduceIte]
