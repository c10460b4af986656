theorem d10 : decide (0 ≤ (0 : Int32) ∧ 0 ≤ (0 : Int32) ∧ 0 ≤ (10 : Int32) ∧ (0 : Int32).toNatClampNeg + (10 : Int32).toNatClampNeg ≤ 10 ∧ (0 : Int32).toNatClampNeg + (10 : Int32).toNatClampNeg ≤ 10) = true := by decide
theorem d7 : decide (0 ≤ (0 : Int32) ∧ 0 ≤ (0 : Int32) ∧ 0 ≤ (7 : Int32) ∧ (0 : Int32).toNatClampNeg + (7 : Int32).toNatClampNeg ≤ 7 ∧ (0 : Int32).toNatClampNeg + (7 : Int32).toNatClampNeg ≤ 7) = true := by decide
theorem cpy0 {f g : Nat → Int32} {n k : Nat} (h : k < n) : va_cpy f g 0 0 n k = f k := by
  unfold va_cpy
  rw [if_pos (by omega)]
  congr 1
  omega
theorem copyX {S : Sn} {st : St} {o o2 : Nat} (h1 : kd o = 5) (h2 : kd o2 = 5) (hne : o ≠ o2) (hn : sN S ≤ 10) (hr : ClsRep o2 S st) : ∃ st' : St, F_X5_copyFrom o o2 st = some st' ∧ ClsRep o S st' ∧ ∀ k, k ∉ [o, o + 1, o + 2, o + 3, o + 4, o + 5, o + 6] → st' k = st k := by
  have t10 : (10 : Int32).toNatClampNeg = 10 := by decide
  have t7 : (7 : Int32).toNatClampNeg = 7 := by decide
  obtain ⟨r1, r2, r3, r4⟩ := hr
  refine ⟨upr (upr (up (upr (upr (upr (upr (up st o 0 (st o2 0)) (o + 1) (va_cpy (st (o2 + 1)) (st (o + 1)) 0 0 10)) (o + 2) (va_cpy (st (o2 + 2)) (st (o + 2)) 0 0 10)) (o + 3) (va_cpy (st (o2 + 3)) (st (o + 3)) 0 0 10)) (o + 4) (va_cpy (st (o2 + 4)) (st (o + 4)) 0 0 10)) o 5 (st o2 5)) (o + 5) (va_cpy (st (o2 + 5)) (st (o + 5)) 0 0 7)) (o + 6) (va_cpy (st (o2 + 6)) (st (o + 6)) 0 0 7), ?_, ?_, ?_⟩
  · unfold F_X5_copyFrom
    rw [ck_d h1, ck_d h2]
    simp only [lt_eq, d10, d7, ck_t]
    simp only [c0, t10, t7]
    rcases kd5 h1 with rfl | rfl | rfl <;> rcases kd5 h2 with rfl | rfl | rfl <;> first | exact absurd rfl hne | (simp only [up_app, up_row, upr_app, Nat.reduceAdd, Nat.reduceEqDiff, reduceIte])
  · refine ⟨?_, ?_, ?_, ?_⟩
    · rw [← r1]
      rcases kd5 h1 with rfl | rfl | rfl <;> simp [up_app, upr_app, up_row]
    · intro i hi
      obtain ⟨a1, a2, a3, a4⟩ := r2 i hi
      rw [← a1, ← a2, ← a3, ← a4]
      rcases kd5 h1 with rfl | rfl | rfl <;> simp only [up_app, up_row, upr_app, Nat.reduceAdd, Nat.reduceEqDiff, reduceIte] <;> exact ⟨cpy0 (by omega), cpy0 (by omega), cpy0 (by omega), cpy0 (by omega)⟩
    · rw [← r3]
      rcases kd5 h1 with rfl | rfl | rfl <;> simp [up_app, upr_app, up_row]
    · intro v hv
      obtain ⟨a1, a2⟩ := r4 v hv
      rw [← a1, ← a2]
      rcases kd5 h1 with rfl | rfl | rfl <;> simp only [up_app, up_row, upr_app, Nat.reduceAdd, Nat.reduceEqDiff, reduceIte] <;> exact ⟨cpy0 (by omega), cpy0 (by omega)⟩
  · intro k hk
    simp only [List.mem_cons, List.not_mem_nil, or_false, not_or] at hk
    simp only [up_row, upr_app]
    simp [hk]
-- the reference keeps an image
theorem img_a {n j : Nat} (hj : j < 2) (hn : n ≤ 10) (K : St → Option (Int32 × St)) (st : St) (hst : st 70 0 = nI n) : ∀ (q i : Nat) (g : Nat → Int32), i ≤ n → n - i < q → (∀ c, c < i → g (62 * j + 4 * c) = st 71 c ∧ g (62 * j + 4 * c + 1) = st 72 c ∧ g (62 * j + 4 * c + 2) = st 73 c ∧ g (62 * j + 4 * c + 3) = st 74 c) → ∃ g' : Nat → Int32, lp_X8_image_19 (nI (62 * j)) K q (nI i) (upr st 93 g) = K (upr st 93 g') ∧ (∀ c, c < n → g' (62 * j + 4 * c) = st 71 c ∧ g' (62 * j + 4 * c + 1) = st 72 c ∧ g' (62 * j + 4 * c + 2) = st 73 c ∧ g' (62 * j + 4 * c + 3) = st 74 c) ∧ ∀ x, (x < 62 * j ∨ 62 * j + 40 ≤ x) → g' x = g x := by
  intro q
  induction q with
  | zero => intro i g h1 h2; omega
  | succ q ih =>
    intro i g h1 h2 h3
    change ∃ g' : Nat → Int32, lpB_X8_image_19 (nI (62 * j)) K (lp_X8_image_19 (nI (62 * j)) K q) (nI i) (upr st 93 g) = _ ∧ _
    unfold lpB_X8_image_19
    have e70 : (upr st 93 g) 70 0 = nI n := by simp only [upr_app, Nat.reduceEqDiff, reduceIte]; exact hst
    rw [e70]
    by_cases hi : i = n
    · subst hi
      rw [if_pos (nI_le (Nat.le_refl _) (by omega))]
      exact ⟨g, rfl, h3, fun _ _ => rfl⟩
    · have hin : i < n := by omega
      rw [if_neg (nI_ge hin (by omega))]
      have e0 : nI (62 * j) + (4 : Int32) * nI i = nI (62 * j + 4 * i) := by rw [L4, pk_mul, nI_add]
      have e1 : nI (62 * j + 4 * i) + 1 = nI (62 * j + 4 * i + 1) := nI_1 _
      have e2 : nI (62 * j + 4 * i) + 2 = nI (62 * j + 4 * i + 2) := nI_add _ 2
      have e3 : nI (62 * j + 4 * i) + 3 = nI (62 * j + 4 * i + 3) := nI_add _ 3
      simp only [e0, e1, e2, e3, lt_eq, nI_1, ck_in (show i < 10 by omega) (show (10 : Nat) < 2 ^ 31 by decide), ck_in (show 62 * j + 4 * i < 124 by omega) (show (124 : Nat) < 2 ^ 31 by decide), ck_in (show 62 * j + 4 * i + 1 < 124 by omega) (show (124 : Nat) < 2 ^ 31 by decide), ck_in (show 62 * j + 4 * i + 2 < 124 by omega) (show (124 : Nat) < 2 ^ 31 by decide), ck_in (show 62 * j + 4 * i + 3 < 124 by omega) (show (124 : Nat) < 2 ^ 31 by decide), nI_clamp (show i < 2 ^ 31 by omega), nI_clamp (show 62 * j + 4 * i < 2 ^ 31 by omega), nI_clamp (show 62 * j + 4 * i + 1 < 2 ^ 31 by omega), nI_clamp (show 62 * j + 4 * i + 2 < 2 ^ 31 by omega), nI_clamp (show 62 * j + 4 * i + 3 < 2 ^ 31 by omega), up_upr, upr_app, Nat.reduceEqDiff, reduceIte]
      obtain ⟨g', k1, k2, k3⟩ := ih (i + 1) (upd (upd (upd (upd g (62 * j + 4 * i) (st 71 i)) (62 * j + 4 * i + 1) (st 72 i)) (62 * j + 4 * i + 2) (st 73 i)) (62 * j + 4 * i + 3) (st 74 i)) (by omega) (by omega) (by
        intro c hc
        simp only [upd_app]
        by_cases hci : c = i
        · subst hci
          rw [if_neg (by omega), if_neg (by omega), if_neg (by omega), if_pos rfl, if_neg (by omega), if_neg (by omega), if_pos rfl, if_neg (by omega), if_pos rfl, if_pos rfl]
          exact ⟨rfl, rfl, rfl, rfl⟩
        · rw [if_neg (by omega), if_neg (by omega), if_neg (by omega), if_neg (by omega), if_neg (by omega), if_neg (by omega), if_neg (by omega), if_neg (by omega), if_neg (by omega), if_neg (by omega), if_neg (by omega), if_neg (by omega), if_neg (by omega), if_neg (by omega), if_neg (by omega), if_neg (by omega)]
          exact h3 c (by omega))
      refine ⟨g', k1, k2, fun x hx => ?_⟩
      rw [k3 x hx]
      simp only [upd_app]
      rw [if_neg (by omega), if_neg (by omega), if_neg (by omega), if_neg (by omega)]
theorem img_b {F j : Nat} (hj : j < 2) (K : St → Option (Int32 × St)) (st : St) (hF : ∀ d, d < 7 → st 77 d = bi (F.testBit d)) : ∀ (q i : Nat) (g : Nat → Int32), i ≤ 7 → 7 - i < q → (∀ c, c < i → g (62 * j + 40 + c) = st 75 c ∧ g (62 * j + 47 + c) = st 76 c ∧ g (62 * j + 54 + c) = bi (F.testBit c)) → ∃ g' : Nat → Int32, lp_X8_image_105 (nI (62 * j)) K q (nI i) (upr st 93 g) = K (upr st 93 g') ∧ (∀ c, c < 7 → g' (62 * j + 40 + c) = st 75 c ∧ g' (62 * j + 47 + c) = st 76 c ∧ g' (62 * j + 54 + c) = bi (F.testBit c)) ∧ ∀ x, (x < 62 * j + 40 ∨ 62 * j + 61 ≤ x) → g' x = g x := by
  intro q
  induction q with
  | zero => intro i g h1 h2; omega
  | succ q ih =>
    intro i g h1 h2 h3
    change ∃ g' : Nat → Int32, lpB_X8_image_105 (nI (62 * j)) K (lp_X8_image_105 (nI (62 * j)) K q) (nI i) (upr st 93 g) = _ ∧ _
    unfold lpB_X8_image_105
    by_cases hi : i = 7
    · subst hi
      rw [if_pos (by decide)]
      exact ⟨g, rfl, h3, fun _ _ => rfl⟩
    · have hin : i < 7 := by omega
      rw [if_neg (by rw [L7]; exact nI_ge hin (by omega))]
      have e0 : nI (62 * j) + (40 : Int32) + nI i = nI (62 * j + 40 + i) := by rw [L40, nI_add, nI_add]
      have e1 : nI (62 * j) + (47 : Int32) + nI i = nI (62 * j + 47 + i) := by rw [L47, nI_add, nI_add]
      have e2 : nI (62 * j) + (54 : Int32) + nI i = nI (62 * j + 54 + i) := by rw [L54, nI_add, nI_add]
      simp only [e0, e1, e2, lt_eq, nI_1, ck_in hin (show (7 : Nat) < 2 ^ 31 by decide), ck_in (show 62 * j + 40 + i < 124 by omega) (show (124 : Nat) < 2 ^ 31 by decide), ck_in (show 62 * j + 47 + i < 124 by omega) (show (124 : Nat) < 2 ^ 31 by decide), ck_in (show 62 * j + 54 + i < 124 by omega) (show (124 : Nat) < 2 ^ 31 by decide), nI_clamp (show i < 2 ^ 31 by omega), nI_clamp (show 62 * j + 40 + i < 2 ^ 31 by omega), nI_clamp (show 62 * j + 47 + i < 2 ^ 31 by omega), nI_clamp (show 62 * j + 54 + i < 2 ^ 31 by omega), up_upr, upr_app, Nat.reduceEqDiff, reduceIte, hF i hin]
      have key : ∀ v, v = bi (F.testBit i) → ∃ g' : Nat → Int32, lp_X8_image_105 (nI (62 * j)) K q (nI (i + 1)) (upr st 93 (upd (upd (upd g (62 * j + 40 + i) (st 75 i)) (62 * j + 47 + i) (st 76 i)) (62 * j + 54 + i) v)) = K (upr st 93 g') ∧ (∀ c, c < 7 → g' (62 * j + 40 + c) = st 75 c ∧ g' (62 * j + 47 + c) = st 76 c ∧ g' (62 * j + 54 + c) = bi (F.testBit c)) ∧ ∀ x, (x < 62 * j + 40 ∨ 62 * j + 61 ≤ x) → g' x = g x := by
        intro v hv
        obtain ⟨g', k1, k2, k3⟩ := ih (i + 1) (upd (upd (upd g (62 * j + 40 + i) (st 75 i)) (62 * j + 47 + i) (st 76 i)) (62 * j + 54 + i) v) (by omega) (by omega) (by
          intro c hc
          simp only [upd_app]
          by_cases hci : c = i
          · subst hci
            rw [if_neg (by omega), if_neg (by omega), if_pos rfl, if_neg (by omega), if_pos rfl, if_pos rfl]
            exact ⟨rfl, rfl, hv⟩
          · rw [if_neg (by omega), if_neg (by omega), if_neg (by omega), if_neg (by omega), if_neg (by omega), if_neg (by omega), if_neg (by omega), if_neg (by omega), if_neg (by omega)]
            exact h3 c (by omega))
        refine ⟨g', k1, k2, fun x hx => ?_⟩
        rw [k3 x hx]
        simp only [upd_app]
        rw [if_neg (by omega), if_neg (by omega), if_neg (by omega)]
      cases hb : F.testBit i with
      | false =>
        rw [if_pos (by rfl)]
        exact key 0 (by rw [hb]; rfl)
      | true =>
        rw [if_neg (by decide)]
        exact key 1 (by rw [hb]; rfl)
theorem imgM {S : Sn} {st : St} {N j : Nat} (hN : 129 ≤ N) (hj : j < 2) (hS : SnOk S) (hm : ModRep S st) : ∃ g : Nat → Int32, F_X8_image N (nI j) st = some (1, up (upr st 93 g) 94 j 1) ∧ ImgRep j S (upr st 93 g) ∧ ∀ x, (x < 62 * j ∨ 62 * j + 62 ≤ x) → g x = st 93 x := by
  obtain ⟨m1, m2, m3, m4⟩ := hm
  obtain ⟨g1, a1, a2, a3⟩ := img_a (j := j) hj hS.1 (fun (s29 : St) => lt (0 : Int32) (fun (v30 : Int32) => lp_X8_image_105 (nI (62 * j)) (fun (s37 : St) => ck (inb ((nI (62 * j)) + (61 : Int32)) 124) (lt (up s37 93 ((nI (62 * j)) + (61 : Int32)).toNatClampNeg (s37 70 0)) (fun (s38 : St) => ck (inb (nI j) 2) (lt (up s38 94 (nI j).toNatClampNeg (vp_nar .boolean (1 : Int32))) (fun (s39 : St) => some ((1 : Int32), s39)))))) N v30 s29)) st m1 N 0 (st 93) (by omega) (by have := hS.1; omega) (fun c hc => by omega)
  obtain ⟨g2, b1, b2, b3⟩ := img_b (j := j) hj (fun (s37 : St) => ck (inb ((nI (62 * j)) + (61 : Int32)) 124) (lt (up s37 93 ((nI (62 * j)) + (61 : Int32)).toNatClampNeg (s37 70 0)) (fun (s38 : St) => ck (inb (nI j) 2) (lt (up s38 94 (nI j).toNatClampNeg (vp_nar .boolean (1 : Int32))) (fun (s39 : St) => some ((1 : Int32), s39)))))) st m4 N 0 g1 (by omega) (by omega) (fun c hc => by omega)
  rw [upr_id, nI0] at a1
  rw [nI0] at b1
  have e61 : nI (62 * j) + (61 : Int32) = nI (62 * j + 61) := by rw [L61, nI_add]
  refine ⟨upd g2 (62 * j + 61) (nI (sN S)), ?_, ?_, ?_⟩
  · unfold F_X8_image
    rw [show F_X8_in (nI j) 0 1 = some 1 from in_t (a := 0) (b := 1) (by omega) (by omega) (by decide), bs_s, if_neg e10, lt_eq, lt_eq, show (62 : Int32) * nI j = nI (62 * j) by rw [L62, pk_mul], a1, lt_eq, b1, e61, ck_in (by omega) (by decide), lt_eq, ck_in hj (by decide), lt_eq, nI_clamp (by omega), nI_clamp (by omega), up_upr, nb1, show (upr st 93 g2) 70 0 = nI (sN S) by simp only [upr_app, Nat.reduceEqDiff, reduceIte]; exact m1]
  · refine ⟨?_, ?_, ?_⟩
    · rw [upr_app, if_pos rfl, upd_app, if_pos rfl]
    · intro i hi
      have := hS.1
      rw [upr_app, if_pos rfl]
      simp only [upd_app]
      rw [if_neg (by omega), if_neg (by omega), if_neg (by omega), if_neg (by omega), b3 _ (by omega), b3 _ (by omega), b3 _ (by omega), b3 _ (by omega)]
      obtain ⟨x1, x2, x3, x4⟩ := a2 i hi
      rw [x1, x2, x3, x4]
      exact m2 i hi
    · intro v hv
      rw [upr_app, if_pos rfl]
      simp only [upd_app]
      rw [if_neg (by omega), if_neg (by omega), if_neg (by omega)]
      obtain ⟨x1, x2, x3⟩ := b2 v hv
      rw [x1, x2, x3]
      exact ⟨(m3 v hv).1, (m3 v hv).2, rfl⟩
  · intro x hx
    rw [upd_app, if_neg (by omega), b3 x (by omega), a3 x (by omega)]

def imK (kp : Nat → Bool) (j : Nat) : Nat → Bool := fun i => if i = j then true else kp i
def imS (SI : Nat → Sn) (j : Nat) (S : Sn) : Nat → Sn := fun i => if i = j then S else SI i
theorem kp_or : ∀ a b : Bool, ∀ j, j < 2 → nI (a.toNat + 2 * b.toNat) ||| ((1 : Int32) <<< (nI j &&& 31)) = nI ((if (0 : Nat) = j then true else a).toNat + 2 * (if (1 : Nat) = j then true else b).toNat) := by decide +kernel
theorem kp_bit : ∀ a b : Bool, ∀ j, j < 2 → (nI (a.toNat + 2 * b.toNat) >>> (nI j &&& 31)) &&& 1 = bi (if j = 0 then a else b) := by decide +kernel
theorem ok_image {st : St} {N : Nat} (hN : 129 ≤ N) (hI : Inv st) (v1 : Int32) : Ok (F_X7_image v1) (F_X8_image N v1) st := by
  have hI0 := hI
  obtain ⟨S, kp, SI, hI⟩ := hI
  rcases ix v1 2 (by decide) with ⟨j, hj, rfl⟩ | hv1
  · obtain ⟨a1, a2, a3, a4, a5, a6, a7⟩ := hI
    have hkd : kd (8 + 7 * j) = 5 := kdIm_all j hj
    obtain ⟨sA, b1, b2, b3⟩ := copyX (o := 8 + 7 * j) (o2 := 1) hkd rfl (by omega) a1.1 a2
    have hb3 : ∀ k, (k < 8 ∨ 21 < k) → sA k = st k := fun k hk => b3 k (by simp only [List.mem_cons, List.not_mem_nil, or_false, not_or]; omega)
    have hmA : ModRep S (up sA 0 2 (nI ((imK kp j 0).toNat + 2 * (imK kp j 1).toNat))) := a3.kept (by simp only [up_app, Nat.reduceEqDiff, reduceIte]; rw [hb3 70 (by omega)]) (by simp only [up_row, Nat.reduceEqDiff, reduceIte]; exact hb3 71 (by omega)) (by simp only [up_row, Nat.reduceEqDiff, reduceIte]; exact hb3 72 (by omega)) (by simp only [up_row, Nat.reduceEqDiff, reduceIte]; exact hb3 73 (by omega)) (by simp only [up_row, Nat.reduceEqDiff, reduceIte]; exact hb3 74 (by omega)) (by simp only [up_row, Nat.reduceEqDiff, reduceIte]; exact hb3 75 (by omega)) (by simp only [up_row, Nat.reduceEqDiff, reduceIte]; exact hb3 76 (by omega)) (by simp only [up_row, Nat.reduceEqDiff, reduceIte]; exact hb3 77 (by omega))
    obtain ⟨g, i1, i2, i3⟩ := imgM (j := j) hN hj a1 hmA
    have keep : ∀ k, k ≠ 0 → k ≠ 93 → k ≠ 94 → (k < 8 ∨ 21 < k) → up (upr (up sA 0 2 (nI ((imK kp j 0).toNat + 2 * (imK kp j 1).toNat))) 93 g) 94 j 1 k = st k := by
      intro k h0 h1 h2 h3
      simp only [up_row, upr_app, if_neg h0, if_neg h1, if_neg h2]
      exact hb3 k h3
    refine ⟨1, _, _, ?_, i1, S, imK kp j, imS SI j S, ?_⟩
    · unfold F_X7_image
      rw [if_neg (nI_pos (by omega)), if_pos (by rw [L2]; exact nI_lt hj (by decide)), ck_in hj (by decide), nI_clamp (by omega), b1, bs_s, lt_eq, hb3 0 (by omega), a5, kp_or _ _ j hj]
      rfl
    · refine ⟨a1, ?_, ?_, ?_, ?_, ?_, ?_⟩
      · exact a2.kept (keep 1 (by decide) (by decide) (by decide) (by omega)) (keep 2 (by decide) (by decide) (by decide) (by omega)) (keep 3 (by decide) (by decide) (by decide) (by omega)) (keep 4 (by decide) (by decide) (by decide) (by omega)) (keep 5 (by decide) (by decide) (by decide) (by omega)) (keep 6 (by decide) (by decide) (by decide) (by omega)) (keep 7 (by decide) (by decide) (by decide) (by omega))
      · exact a3.kept (by rw [keep 70 (by decide) (by decide) (by decide) (by omega)]) (keep 71 (by decide) (by decide) (by decide) (by omega)) (keep 72 (by decide) (by decide) (by decide) (by omega)) (keep 73 (by decide) (by decide) (by decide) (by omega)) (keep 74 (by decide) (by decide) (by decide) (by omega)) (keep 75 (by decide) (by decide) (by decide) (by omega)) (keep 76 (by decide) (by decide) (by decide) (by omega)) (keep 77 (by decide) (by decide) (by decide) (by omega))
      · refine Cache.kept a4 ?_
        intro k hk
        simp only [cIds, List.mem_cons, List.not_mem_nil, or_false] at hk
        exact keep k (by omega) (by omega) (by omega) (by omega)
      · simp only [up_app, up_row, upr_app, Nat.reduceEqDiff, reduceIte]
        rfl
      · intro i hi
        simp only [up_app, up_row, upr_app, Nat.reduceEqDiff, reduceIte]
        unfold imK
        by_cases h : i = j
        · rw [if_pos h, if_pos h]; rfl
        · rw [if_neg h, if_neg h, hb3 94 (by omega)]; exact a6 i hi
      · intro i hi hp
        unfold imK at hp
        unfold imS
        by_cases h : i = j
        · subst h
          rw [if_pos rfl]
          refine ⟨a1, ?_, i2.kept (by simp [up_row, upr_app])⟩
          rcases (show i = 0 ∨ i = 1 by omega) with rfl | rfl
          · exact b2.kept (by simp [up_row, upr_app]) (by simp [up_row, upr_app]) (by simp [up_row, upr_app]) (by simp [up_row, upr_app]) (by simp [up_row, upr_app]) (by simp [up_row, upr_app]) (by simp [up_row, upr_app])
          · exact b2.kept (by simp [up_row, upr_app]) (by simp [up_row, upr_app]) (by simp [up_row, upr_app]) (by simp [up_row, upr_app]) (by simp [up_row, upr_app]) (by simp [up_row, upr_app]) (by simp [up_row, upr_app])
        · rw [if_neg h] at hp ⊢
          obtain ⟨z1, z2, z3⟩ := a7 i hi hp
          have hz : ∀ k, k ≠ 0 → k ≠ 93 → k ≠ 94 → k ∉ [8 + 7 * j, 8 + 7 * j + 1, 8 + 7 * j + 2, 8 + 7 * j + 3, 8 + 7 * j + 4, 8 + 7 * j + 5, 8 + 7 * j + 6] → up (upr (up sA 0 2 (nI ((imK kp j 0).toNat + 2 * (imK kp j 1).toNat))) 93 g) 94 j 1 k = st k := by
            intro k h0 h1 h2 h3
            simp only [up_row, upr_app, if_neg h0, if_neg h1, if_neg h2]
            exact b3 k h3
          refine ⟨z1, ?_, ?_⟩
          · refine z2.kept (hz _ ?_ ?_ ?_ ?_) (hz _ ?_ ?_ ?_ ?_) (hz _ ?_ ?_ ?_ ?_) (hz _ ?_ ?_ ?_ ?_) (hz _ ?_ ?_ ?_ ?_) (hz _ ?_ ?_ ?_ ?_) (hz _ ?_ ?_ ?_ ?_) <;> first | omega | (simp only [List.mem_cons, List.not_mem_nil, or_false, not_or]; omega)
          · have hrow : ∀ x, (x < 62 * j ∨ 62 * j + 62 ≤ x) → up (upr (up sA 0 2 (nI ((imK kp j 0).toNat + 2 * (imK kp j 1).toNat))) 93 g) 94 j 1 93 x = st 93 x := by
              intro x hx
              simp only [up_row, upr_app, Nat.reduceEqDiff, reduceIte]
              rw [i3 x hx]
              simp only [up_row, Nat.reduceEqDiff, reduceIte]
              rw [hb3 93 (by omega)]
            obtain ⟨y1, y2, y3⟩ := z3
            have hn10 := z1.1
            refine ⟨by rw [hrow _ (by omega)]; exact y1, ?_, ?_⟩
            · intro c hc
              rw [hrow _ (by omega), hrow _ (by omega), hrow _ (by omega), hrow _ (by omega)]
              exact y2 c hc
            · intro v hv
              rw [hrow _ (by omega), hrow _ (by omega), hrow _ (by omega)]
              exact y3 v hv
  · refine Ok.same hI0 (-2) ?_ ?_
    · unfold F_X7_image
      by_cases a : v1 < 0
      · rw [if_pos a]
      · have b : ¬ v1 < 2 := by
          rcases hv1 with h | h
          · exact absurd h a
          · rw [i32_le, show (nI 2).toInt = 2 from by decide] at h
            rw [i32_lt, show (2 : Int32).toInt = 2 from by decide]
            omega
        rw [if_neg a, if_neg b]
    · unfold F_X8_image
      rw [show F_X8_in v1 0 1 = some 0 from in_f (b := 1) hv1 (by decide), bs_s]
      rfl
