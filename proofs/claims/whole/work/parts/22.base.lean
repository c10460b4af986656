-- bits
theorem nI_bv (n : Nat) : (nI n).toBitVec = BitVec.ofNat 32 n := rfl
theorem nI_or (a b : Nat) : nI a ||| nI b = nI (a ||| b) := by
  apply Int32.toBitVec_inj.mp
  rw [Int32.toBitVec_or, nI_bv, nI_bv, nI_bv]
  apply BitVec.eq_of_toNat_eq
  rw [BitVec.toNat_or, BitVec.toNat_ofNat, BitVec.toNat_ofNat, BitVec.toNat_ofNat, Nat.or_mod_two_pow]
theorem nI_and (a b : Nat) : nI a &&& nI b = nI (a &&& b) := by
  apply Int32.toBitVec_inj.mp
  rw [Int32.toBitVec_and, nI_bv, nI_bv, nI_bv]
  apply BitVec.eq_of_toNat_eq
  rw [BitVec.toNat_and, BitVec.toNat_ofNat, BitVec.toNat_ofNat, BitVec.toNat_ofNat, Nat.and_mod_two_pow]
theorem sh_k : ∀ n, n < 32 → ((nI n &&& 31).toBitVec.smod 32).toNat = n := by decide +kernel
theorem shl1 : ∀ n, n < 31 → (1 : Int32) <<< (nI n &&& 31) = nI (2 ^ n) := by decide +kernel
theorem shrN {n i : Nat} (hn : n < 2 ^ 31) (hi : i < 32) : nI n >>> (nI i &&& 31) = nI (n / 2 ^ i) := pk_shrN hn _ i (sh_k i hi)
theorem and1 (n : Nat) : nI n &&& 1 = nI (n % 2) := by
  have h := nI_and n 1
  rw [Nat.and_one_is_mod] at h
  exact h
theorem bit_s {n i : Nat} (hn : n < 2 ^ 31) (hi : i < 32) : (nI n >>> (nI i &&& 31)) &&& 1 = bi (n.testBit i) := by
  rw [shrN hn hi, and1, Nat.testBit_eq_decide_div_mod_eq]
  unfold bi
  rcases Nat.mod_two_eq_zero_or_one (n / 2 ^ i) with h | h <;> rw [h] <;> rfl
theorem bi_0 {b : Bool} : bi b = 0 ↔ b = false := by cases b <;> simp [bi]
theorem bi_1 {b : Bool} : bi b = 1 ↔ b = true := by cases b <;> simp [bi]
theorem nb_bi (b : Bool) : vp_nar .boolean (bi b) = bi b := by cases b <;> rfl
theorem nr_bi (b : Bool) : narrow .boolean (.int (bi b)) = .int (bi b) := by cases b <;> rfl
theorem sub2 (a b : Nat) (ha : a < 7) (hb : b < 7) : (if (0 : Int32) ≤ nI a - nI b then nI a - nI b else 0 - (nI a - nI b)) = nI (if a < b then b - a else a - b) := by
  have : ∀ a, a < 7 → ∀ b, b < 7 → (if (0 : Int32) ≤ nI a - nI b then nI a - nI b else 0 - (nI a - nI b)) = nI (if a < b then b - a else a - b) := by decide +kernel
  exact this a ha b hb
theorem isFarX {st : St} {F a b : Nat} (hF : F < 128) (h : st 1 5 = nI F) (ha : a < 7) (hb : b < 7) : F_X5_isFar (nI a) (nI b) st = some (bi (far F a b)) := by
  unfold F_X5_isFar far
  simp only [lt_eq, h]
  rw [sub2 a b ha hb, bit_s (by omega) (by split <;> omega)]
  by_cases e : a = b
  · subst e
    simp [bi]
  · have e2 : ¬ nI a = nI b := by rw [nI_eq (by omega) (by omega)]; exact e
    rw [if_neg e2]
    cases hb : F.testBit (if a < b then b - a else a - b) <;> simp [bi, e]
-- the class: what is measured and forgotten
theorem meas_in {F a : Nat} (ha : a < 7) (hF : F < 128) (K : St → Option St) : ∀ (m b : Nat) (f : Nat → Int32) (st : St), b ≤ 7 → 7 - b < m → st 1 5 = nI F → (∀ c, c < b → f (a * 8 + c) = bi (far F a c)) → ∃ g : Nat → Int32, lp_X6_measure_10 (nI a) K m (nI b) (upr st 27 f) = K (upr st 27 g) ∧ (∀ c, c < 7 → g (a * 8 + c) = bi (far F a c)) ∧ ∀ i, (∀ c, c < 7 → i ≠ a * 8 + c) → g i = f i := by
  intro m
  induction m with
  | zero => intro b f st h1 h2; omega
  | succ m ih =>
    intro b f st h1 h2 hst hf
    change ∃ g : Nat → Int32, lpB_X6_measure_10 (nI a) K (lp_X6_measure_10 (nI a) K m) (nI b) (upr st 27 f) = K (upr st 27 g) ∧ _
    unfold lpB_X6_measure_10
    by_cases hb : b = 7
    · subst hb
      rw [if_pos (by rw [L7]; exact nI_le (Nat.le_refl _) (by omega))]
      exact ⟨f, rfl, hf, fun _ _ => rfl⟩
    · have hb7 : b < 7 := by omega
      rw [if_neg (by rw [L7]; exact nI_ge hb7 (by omega)), isFarX hF (by rw [upr_app]; exact hst) ha hb7]
      simp only [bs_s]
      have e0 : nI a * 8 + nI b = nI (a * 8 + b) := by rw [L8, pk_mul, nI_add]
      have e1 : nI b + 1 = nI (b + 1) := nI_1 b
      have e2 : ∀ v, up (upr st 27 f) 27 (a * 8 + b) v = upr st 27 (upd f (a * 8 + b) v) := by
        intro v
        funext q
        simp only [up_row, upr_app]
        split <;> rfl
      have key : ∀ v, v = bi (far F a b) → ∃ g : Nat → Int32, lp_X6_measure_10 (nI a) K m (nI (b + 1)) (upr st 27 (upd f (a * 8 + b) v)) = K (upr st 27 g) ∧ (∀ c, c < 7 → g (a * 8 + c) = bi (far F a c)) ∧ ∀ i, (∀ c, c < 7 → i ≠ a * 8 + c) → g i = f i := by
        intro v hv
        obtain ⟨g, g1, g2, g3⟩ := ih (b + 1) (upd f (a * 8 + b) v) st (by omega) (by omega) hst (by
          intro c hc
          rw [upd_app]
          by_cases hcb : c = b
          · rw [if_pos (by rw [hcb]), hcb, hv]
          · rw [if_neg (by omega)]; exact hf c (by omega))
        refine ⟨g, g1, g2, fun i hi => ?_⟩
        rw [g3 i hi, upd_app, if_neg (hi b hb7)]
      cases hfr : far F a b with
      | false =>
        rw [if_pos (by rfl), e0, ck_in (by omega) (by omega), e1, lt_eq, lt_eq, nI_clamp (by omega), e2]
        exact key 0 (by rw [hfr]; rfl)
      | true =>
        rw [if_neg (by decide), e0, ck_in (by omega) (by omega), e1, lt_eq, lt_eq, nI_clamp (by omega), e2]
        exact key 1 (by rw [hfr]; rfl)
theorem meas_out {F : Nat} (hF : F < 128) {N : Nat} (hN : 8 ≤ N) : ∀ (m a : Nat) (f : Nat → Int32) (st : St), a ≤ 7 → 7 - a < m → st 1 5 = nI F → (∀ c b, c < a → b < 7 → f (c * 8 + b) = bi (far F c b)) → ∃ g : Nat → Int32, lp_X6_measure_2 N m (nI a) (upr st 27 f) = some (upr st 27 g) ∧ (∀ c b, c < 7 → b < 7 → g (c * 8 + b) = bi (far F c b)) ∧ ∀ i, (∀ c b, c < 7 → b < 7 → i ≠ c * 8 + b) → g i = f i := by
  intro m
  induction m with
  | zero => intro a f st h1 h2; omega
  | succ m ih =>
    intro a f st h1 h2 hst hf
    change ∃ g : Nat → Int32, lpB_X6_measure_2 N (lp_X6_measure_2 N m) (nI a) (upr st 27 f) = some (upr st 27 g) ∧ _
    unfold lpB_X6_measure_2
    by_cases ha : a = 7
    · subst ha
      rw [if_pos (by rw [L7]; exact nI_le (Nat.le_refl _) (by omega))]
      exact ⟨f, rfl, hf, fun _ _ => rfl⟩
    · have ha7 : a < 7 := by omega
      rw [if_neg (by rw [L7]; exact nI_ge ha7 (by omega)), lt_eq]
      obtain ⟨g, g1, g2, g3⟩ := meas_in ha7 hF (fun s28 => lt (nI a + 1) fun v29 => lp_X6_measure_2 N m v29 s28) N 0 f st (by omega) (by omega) hst (fun c hc => by omega)
      rw [L0, g1, lt_eq, nI_1]
      obtain ⟨k, k1, k2, k3⟩ := ih (a + 1) g st (by omega) (by omega) hst (by
        intro c b hc hb
        by_cases hca : c = a
        · rw [hca]; exact g2 b hb
        · rw [g3 _ (fun d hd => by omega)]; exact hf c b (by omega) hb)
      refine ⟨k, k1, k2, fun i hi => ?_⟩
      rw [k3 i hi, g3 i (fun c hc => hi a c ha7 hc)]
theorem measX {st : St} {F N : Nat} (hN : 8 ≤ N) (hF : F < 128) (h : st 1 5 = nI F) (hz : ∀ a b, a < 8 → b < 8 → (a = 7 ∨ b = 7) → st 27 (a * 8 + b) = 0) : ∃ g : Nat → Int32, F_X6_measure N st = some (upr st 27 g) ∧ ∀ a b, a < 8 → b < 8 → g (a * 8 + b) = bi (decide (a < 7) && decide (b < 7) && far F a b) := by
  have e : upr st 27 (st 27) = st := by
    funext q
    rw [upr_app]
    split
    · next h => rw [h]
    · rfl
  obtain ⟨g, g1, g2, g3⟩ := meas_out hF hN N 0 (st 27) st (by omega) (by omega) h (fun c b hc hb => by omega)
  rw [e] at g1
  refine ⟨g, ?_, ?_⟩
  · unfold F_X6_measure
    rw [lt_eq, L0]
    exact g1
  · intro a b ha hb
    by_cases h7 : a = 7 ∨ b = 7
    · rw [g3 _ (fun c d hc hd => by omega), hz a b ha hb h7]
      rcases h7 with rfl | rfl <;> simp [bi]
    · rw [g2 a b (by omega) (by omega)]
      have h1 : a < 7 := by omega
      have h2 : b < 7 := by omega
      simp [h1, h2]
theorem upr_upr {st : St} {k : Nat} {f g : Nat → Int32} : upr (upr st k f) k g = upr st k g := by
  funext q
  simp only [upr_app]
  split <;> rfl
theorem up_upr {st : St} {k i : Nat} {f : Nat → Int32} {v : Int32} : up (upr st k f) k i v = upr st k (upd f i v) := by
  funext q
  simp only [up_row, upr_app]
  split <;> rfl
theorem upr_id {st : St} {k : Nat} : upr st k (st k) = st := by
  funext q
  rw [upr_app]
  split
  · next h => rw [h]
  · rfl
theorem up_eq {st : St} {k i : Nat} {v : Int32} : up st k i v = upr st k (upd (st k) i v) := by
  funext q
  simp only [up_row, upr_app]
  split
  · next h => rw [h]
  · rfl
/-- Arrays.fill -/
theorem fill_lp {a n : Nat} (hk : ln a = n) (hn : n < 2 ^ 31) (v : Int32) : ∀ (m i : Nat) (f : Nat → Int32) (st : St), i ≤ n → n - i < m → (∀ c, c < i → f c = v) → ∃ g : Nat → Int32, lp_J7_fill_53178_5 v (nI n) a m (nI i) (upr st a f) = some (upr st a g) ∧ (∀ c, c < n → g c = v) ∧ ∀ c, n ≤ c → g c = f c := by
  intro m
  induction m with
  | zero => intro i f st h1 h2; omega
  | succ m ih =>
    intro i f st h1 h2 hf
    change ∃ g : Nat → Int32, lpB_J7_fill_53178_5 v (nI n) a (lp_J7_fill_53178_5 v (nI n) a m) (nI i) (upr st a f) = _ ∧ _
    unfold lpB_J7_fill_53178_5
    by_cases hi : i = n
    · subst hi
      rw [if_pos (nI_le (Nat.le_refl _) hn)]
      exact ⟨f, rfl, hf, fun _ _ => rfl⟩
    · have hi2 : i < n := by omega
      rw [if_neg (nI_ge hi2 hn), hk, ck_in hi2 hn, lt_eq, lt_eq, nI_clamp (by omega), nI_1, up_upr]
      obtain ⟨g, g1, g2, g3⟩ := ih (i + 1) (upd f i v) st (by omega) (by omega) (by
        intro c hc
        rw [upd_app]
        split
        · rfl
        · exact hf c (by omega))
      refine ⟨g, g1, g2, fun c hc => ?_⟩
      rw [g3 c hc, upd_app, if_neg (by omega)]
theorem fillX {a n N : Nat} (hkd : kd a = 9) (hk : ln a = n) (hn : n < 2 ^ 31) (hN : n < N) (v : Int32) (st : St) : ∃ g : Nat → Int32, F_J7_fill_53178 N a v st = some (upr st a g) ∧ (∀ c, c < n → g c = v) ∧ ∀ c, n ≤ c → g c = st a c := by
  obtain ⟨g, g1, g2, g3⟩ := fill_lp hk hn v N 0 (st a) st (by omega) (by omega) (fun c hc => by omega)
  rw [upr_id] at g1
  refine ⟨g, ?_, g2, g3⟩
  unfold F_J7_fill_53178
  rw [ck_d hkd, lt_eq, lt_eq, hk, L0]
  exact g1
