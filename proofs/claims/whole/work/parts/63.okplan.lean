-- plan, place
theorem asked_c (x y : Int32) : (∃ (r : Nat) (b : Bool), 1 ≤ r ∧ r ≤ 3 ∧ x = nI r ∧ y = bi b ∧ F_X7_isPlan x y = some 1 ∧ F_X8_isAsked x y = some 1) ∨ (F_X7_isPlan x y = some 0 ∧ F_X8_isAsked x y = some 0) := by
  have hno : (x < 1 ∨ (3 : Int32) < x) → F_X7_isPlan x y = some 0 ∧ F_X8_isAsked x y = some 0 := by
    intro h
    constructor
    · unfold F_X7_isPlan
      simp only [lt_eq]
      by_cases a : x < 1
      · rw [if_pos a]
      · rw [if_neg a, if_pos (h.resolve_left a)]
    · unfold F_X8_isAsked
      have e : F_X8_in x 1 3 = some 0 := by
        rw [in_spec]
        by_cases a : x < 1
        · rw [if_pos a]
        · rw [if_neg a, if_pos (h.resolve_left a)]
      rw [e, bs_s, lt_eq, if_pos (by rfl)]
  have hyes : ∀ r : Nat, 1 ≤ r → r ≤ 3 → x = nI r → (∃ (r : Nat) (b : Bool), 1 ≤ r ∧ r ≤ 3 ∧ x = nI r ∧ y = bi b ∧ F_X7_isPlan x y = some 1 ∧ F_X8_isAsked x y = some 1) ∨ (F_X7_isPlan x y = some 0 ∧ F_X8_isAsked x y = some 0) := by
    intro r h1 h3 hx
    have a1 : ¬ x < 1 := by rw [hx, L1]; exact nI_nlt h1 (by omega)
    have a2 : ¬ (3 : Int32) < x := by rw [hx, L3]; exact nI_nlt h3 (by omega)
    have e : F_X8_in x 1 3 = some 1 := by rw [in_spec, if_neg a1, if_neg a2]
    rcases mode_c y with ⟨b, hb, m1, m2⟩ | ⟨m1, m2⟩
    · refine Or.inl ⟨r, b, h1, h3, hx, hb, ?_, ?_⟩
      · unfold F_X7_isPlan
        rw [lt_eq, if_neg a1, if_neg a2, m1, bs_s, if_neg e10]
      · unfold F_X8_isAsked
        rw [e, bs_s, lt_eq, if_neg e10, m2, bs_s, if_neg e10]
    · refine Or.inr ⟨?_, ?_⟩
      · unfold F_X7_isPlan
        rw [lt_eq, if_neg a1, if_neg a2, m1, bs_s, if_pos (by rfl)]
      · unfold F_X8_isAsked
        rw [e, bs_s, lt_eq, if_neg e10, m2, bs_s, if_pos (by rfl)]
  rcases ix x 4 (by decide) with ⟨j, hj, hx⟩ | h
  · by_cases h0 : j = 0
    · exact Or.inr (hno (Or.inl (by rw [hx, h0]; decide)))
    · exact hyes j (by omega) (by omega) hx
  · refine Or.inr (hno ?_)
    rcases h with h | h
    · refine Or.inl ?_
      rw [i32_lt, show (0 : Int32).toInt = 0 from by decide] at h
      rw [i32_lt, show (1 : Int32).toInt = 1 from by decide]
      omega
    · refine Or.inr ?_
      rw [i32_le, show (nI 4).toInt = 4 from by decide] at h
      rw [i32_lt, show (3 : Int32).toInt = 3 from by decide]
      omega
theorem what_c (x : Int32) (n : Nat) (hn : n < 2 ^ 30) : (∃ w : Nat, w ≤ n ∧ x = nI w ∧ ¬ x < 0 ∧ x ≤ nI n ∧ F_X8_in x 0 (nI n) = some 1) ∨ ((x < 0 ∨ ¬ x ≤ nI n) ∧ F_X8_in x 0 (nI n) = some 0) := by
  rcases ix x (n + 1) (by omega) with ⟨w, hw, rfl⟩ | h
  · exact Or.inl ⟨w, by omega, rfl, nI_pos (by omega), nI_le (by omega) (by omega), in_t (a := 0) (by omega) (by omega) (by omega)⟩
  · refine Or.inr ⟨?_, in_f h (by omega)⟩
    rcases h with h | h
    · exact Or.inl h
    · refine Or.inr (fun q => ?_)
      rw [i32_le, nI_toInt (by omega)] at h q
      omega
theorem plI_lt {r : Nat} {b : Bool} (h1 : 1 ≤ r) (h3 : r ≤ 3) : ∃ p, p < 6 ∧ plI r b = 38 + 3 * p := by
  have hb : b.toNat < 2 := by cases b <;> decide
  exact ⟨2 * (r - 1) + b.toNat, by omega, rfl⟩
theorem kd_pl : ∀ p, p < 6 → kd (38 + 3 * p) = 2 ∧ kd (38 + 3 * p + 1) = 9 ∧ ln (38 + 3 * p + 1) = 7 ∧ kd (38 + 3 * p + 2) = 9 ∧ ln (38 + 3 * p + 2) = 7 := by decide
theorem plI_kd {r : Nat} {b : Bool} (h1 : 1 ≤ r) (h3 : r ≤ 3) : kd (plI r b) = 2 ∧ kd (plI r b + 1) = 9 ∧ ln (plI r b + 1) = 7 ∧ kd (plI r b + 2) = 9 ∧ ln (plI r b + 2) = 7 := by
  obtain ⟨p, hp, e⟩ := plI_lt (b := b) h1 h3
  rw [e]
  exact kd_pl p hp
theorem plan_end {P B C : Nat} {T : Int32} {s : St} {w : Nat} (hw : w ≤ 2) (ht : T = nI B) : (if nI w = 0 then some (nI P, s) else if nI w = (1 : Int32) then some (T, s) else some (nI C, s)) = some (nI (if w = 0 then P else if w = 1 then B else C), s) := by
  subst ht
  rcases (show w = 0 ∨ w = 1 ∨ w = 2 by omega) with rfl | rfl | rfl
  · rw [if_pos (by rfl)]; rfl
  · rw [if_neg (by decide), if_pos (by rfl)]; rfl
  · rw [if_neg (by decide), if_neg (by decide)]; rfl
theorem ok_plan {st : St} {N : Nat} (hN : 6000 ≤ N) (hI : Inv st) (v1 v2 v3 : Int32) : Ok (F_X7_plan N v1 v2 v3) (F_X8_plan N v1 v2 v3) st := by
  have hI0 := hI
  obtain ⟨S, kp, SI, hI⟩ := hI
  rcases asked_c v1 v2 with ⟨r, b, r1, r3, rfl, rfl, h1, h2⟩ | ⟨h1, h2⟩
  · rcases what_c v3 2 (by decide) with ⟨w, hw, rfl, w1, w2, w3⟩ | ⟨w1, w3⟩
    · obtain ⟨sa, a1, a2, a3⟩ := planForX (N := N) (mode := b) (by omega) hI r1 r3
      obtain ⟨sb, b1, b2, b3⟩ := layPlanM (N := N) (mode := b) hN a2 r1 r3
      refine ⟨nI (if w = 0 then (planA S r b).1 else if w = 1 then filled S r b else turnP S r b), sa, sb, ?_, ?_, S, kp, SI, b2⟩
      · unfold F_X7_plan
        rw [h1, bs_s, if_neg e10, if_neg w1, if_pos (by rw [L2]; exact w2), a1, bd_s, ck_d (plI_kd r1 r3).1, a3.1, a3.2.1, a3.2.2.1]
        exact plan_end hw rfl
      · have z : ∀ g, g < 3 → (sb 87 g = 0 ↔ blkOf S r b g = 0) := by
          intro g hg
          have hlt : blkOf S r b g < 128 := blk_lt (planA_len r1 r3).1
          rw [b3.2.2.1 g hg, L0, nI_eq (by omega) (by omega)]
        unfold F_X8_plan
        rw [h2, bs_s, if_neg e10, L2, w3, bs_s, if_neg e10, b1, bs_s, b3.1, b3.2.1]
        simp only [lt_eq, show (nI 2).toNatClampNeg = 2 from by decide, c0, c1, show inb 0 3 = true from by decide, show inb 1 3 = true from by decide, show inb (nI 2) 3 = true from by decide, ck_t]
        unfold filled
        by_cases z0 : blkOf S r b 0 = 0 <;> by_cases z1 : blkOf S r b 1 = 0 <;> by_cases z2 : blkOf S r b 2 = 0 <;> simp only [(z 0 (by decide)), (z 1 (by decide)), (z 2 (by decide)), z0, z1, z2, if_true, if_false, ne_eq, not_true_eq_false, not_false_eq_true] <;> exact plan_end hw (by decide)
    · refine Ok.same hI0 (-2) ?_ ?_
      · unfold F_X7_plan
        rw [h1, bs_s, if_neg e10]
        by_cases c : v3 < 0
        · rw [if_pos c]
        · rw [if_neg c, if_neg (by rw [L2]; exact w1.resolve_left c)]
      · unfold F_X8_plan
        rw [h2, bs_s, if_neg e10, L2, w3, bs_s, if_pos (by rfl)]
  · refine Ok.same hI0 (-2) ?_ ?_
    · unfold F_X7_plan
      rw [h1, bs_s, if_pos (by rfl)]
    · unfold F_X8_plan
      rw [h2, bs_s, if_pos (by rfl)]
theorem InvS.line {S : Sn} {kp : Nat → Bool} {SI : Nat → Sn} {st : St} {g : Nat → Int32} (h : InvS S kp SI st) : InvS S kp SI (upr st 79 g) := h.look (by simp [upr_app]) (fun k hk => by rw [upr_app, if_neg (by rintro rfl; exact hk (by decide))])
theorem ok_place {st : St} {N : Nat} (hN : 6000 ≤ N) (hI : Inv st) (v1 v2 v3 v4 : Int32) : Ok (F_X7_place N v1 v2 v3 v4) (F_X8_place N v1 v2 v3 v4) st := by
  have hI0 := hI
  obtain ⟨S, kp, SI, hI⟩ := hI
  have hS := hI.1
  have hu := used_lt hS
  have hux := usedX (N := N) (by omega) hS hI.2.1
  rcases var_c v3 with ⟨j, hj, rfl, h1, h2⟩ | ⟨h1, h2⟩
  · obtain ⟨g, o1⟩ := onesM (N := N) (by omega) hS hI.2.2.1
    have hh : F_X8_has (nI (usedS S)) (nI j) = some (bi ((usedS S).testBit j)) := hasM (by omega) (by omega)
    have hbit : (nI (usedS S) >>> (nI j &&& 31)) &&& (1 : Int32) = bi ((usedS S).testBit j) := bit_s (by omega) (by omega)
    cases hb : (usedS S).testBit j with
    | false =>
      refine ⟨-1, st, upr st 79 g, ?_, ?_, S, kp, SI, hI.line⟩
      · unfold F_X7_place
        rw [h1, bs_s, if_neg e10, hux, bs_s, hbit, hb, if_pos (by rfl)]
      · unfold F_X8_place
        rw [h2, bs_s, if_neg e10, o1, bd_s, hh, hb, bs_s, if_pos (by rfl)]
    | true =>
      rcases asked_c v1 v2 with ⟨r, b, r1, r3, rfl, rfl, p1, p2⟩ | ⟨p1, p2⟩
      · rcases what_c v4 1 (by decide) with ⟨w, hw, rfl, w1, w2, w3⟩ | ⟨w1, w3⟩
        · obtain ⟨sa, a1, a2, a3⟩ := planForX (N := N) (mode := b) (by omega) hI r1 r3
          obtain ⟨g2, o2⟩ := onesM (N := N) (by omega) hS a2.2.2.1
          obtain ⟨sb, b1, b2, b3⟩ := layPlanM (N := N) (mode := b) hN (a2.line (g := g2)) r1 r3
          refine ⟨nI (if w = 0 then regOf S r b j else cellP S r b j), sa, sb, ?_, ?_, S, kp, SI, b2⟩
          · unfold F_X7_place
            rw [h1, bs_s, if_neg e10, hux, bs_s, hbit, hb, if_neg (by decide), p1, bs_s, if_neg e10, if_neg w1, if_pos (by rw [L1]; exact w2), a1, bd_s, ck_d (plI_kd r1 r3).1, ck_in hj (by decide), ck_in hj (by decide), nI_clamp (by omega), (a3.2.2.2 j hj hb).1, (a3.2.2.2 j hj hb).2]
            rcases (show w = 0 ∨ w = 1 by omega) with rfl | rfl
            · rw [if_pos (by rfl)]; rfl
            · rw [if_neg (by decide)]; rfl
          · unfold F_X8_place
            rw [h2, bs_s, if_neg e10, o2, bd_s, hh, hb, bs_s, if_neg (by decide), p2, bs_s, if_neg e10, L1, w3, bs_s, if_neg e10, b1, bs_s, ck_in hj (by decide), ck_in hj (by decide), nI_clamp (by omega), (b3.2.2.2 j hj hb).1, (b3.2.2.2 j hj hb).2]
            rcases (show w = 0 ∨ w = 1 by omega) with rfl | rfl
            · rw [if_pos (by rfl)]; rfl
            · rw [if_neg (by decide)]; rfl
        · refine ⟨-2, st, upr st 79 g, ?_, ?_, S, kp, SI, hI.line⟩
          · unfold F_X7_place
            rw [h1, bs_s, if_neg e10, hux, bs_s, hbit, hb, if_neg (by decide), p1, bs_s, if_neg e10]
            by_cases c : v4 < 0
            · rw [if_pos c]
            · rw [if_neg c, if_neg (by rw [L1]; exact w1.resolve_left c)]
          · unfold F_X8_place
            rw [h2, bs_s, if_neg e10, o1, bd_s, hh, hb, bs_s, if_neg (by decide), p2, bs_s, if_neg e10, L1, w3, bs_s, if_pos (by rfl)]
      · refine ⟨-2, st, upr st 79 g, ?_, ?_, S, kp, SI, hI.line⟩
        · unfold F_X7_place
          rw [h1, bs_s, if_neg e10, hux, bs_s, hbit, hb, if_neg (by decide), p1, bs_s, if_pos (by rfl)]
        · unfold F_X8_place
          rw [h2, bs_s, if_neg e10, o1, bd_s, hh, hb, bs_s, if_neg (by decide), p2, bs_s, if_pos (by rfl)]
  · refine Ok.same hI0 (-1) ?_ ?_
    · unfold F_X7_place
      rw [h1, bs_s, if_pos (by rfl)]
    · unfold F_X8_place
      rw [h2, bs_s, if_pos (by rfl)]
