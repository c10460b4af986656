-- the class's costs of what is traced
def fz (F x y : Nat) : Nat := if (decide (x < 7) && decide (y < 7) && far F x y) = true then 1 else 0
theorem fz_bi (F x y : Nat) : bi (decide (x < 7) && decide (y < 7) && far F x y) = nI (fz F x y) := by
  unfold fz bi
  split <;> rfl
theorem fz_le (F x y : Nat) : fz F x y ≤ 1 := by unfold fz; split <;> omega
def frL (F : Nat) (cl : Nat → Nat) (u v : Nat) : Nat := fz F (cl u) (cl v)
def CellR (a : Nat) (cl : Nat → Nat) (st : St) : Prop := kd a = 9 ∧ ln a = 8 ∧ (∀ v, v < 8 → st a v = nI (cl v) ∧ cl v ≤ 7) ∧ cl 7 = 7
def FarR (F : Nat) (st : St) : Prop := ∀ x y, x < 8 → y < 8 → st 27 (x * 8 + y) = nI (fz F x y)
theorem FarOk.r {S : Sn} {st : St} (h : FarOk S st) : FarR (sF S) st := fun x y hx hy => by rw [h x y hx hy, fz_bi]
theorem pc_lp {st : St} {a F v : Nat} {cl b : Nat → Nat} (hc : CellR a cl st) (hf : FarR F st) (hb : ∀ i, i < 49 → st 26 i = nI (b i)) (hv : v < 7) : ∀ (m u : Nat), u ≤ v → v - u < m → lp_X6_pairCost_13 (nI v) (nI (cl v * 8)) a st m (nI (sumR (fun u => b (v * 7 + u) * frL F cl v u) u)) (nI u) = some (nI (sumR (fun u => b (v * 7 + u) * frL F cl v u) v)) := by
  obtain ⟨h1, h2, h3, h4⟩ := hc
  intro m
  induction m with
  | zero => intro u a b; omega
  | succ m ih =>
    intro u g1 g2
    change lpB_X6_pairCost_13 (nI v) (nI (cl v * 8)) a st (lp_X6_pairCost_13 (nI v) (nI (cl v * 8)) a st m) _ _ = _
    unfold lpB_X6_pairCost_13
    by_cases hu : u = v
    · rw [hu, if_pos (nI_le (Nat.le_refl _) (by omega))]
    · have hc1 := (h3 v (by omega)).2
      have hc2 := (h3 u (by omega)).2
      rw [if_neg (nI_ge (by omega) (by omega)), h2, L7, pk_mul, nI_add, ck_in (by omega) (by decide), ck_in (by omega) (by decide), nI_clamp (show u < 2 ^ 31 by omega), (h3 u (by omega)).1, nI_add, ck_in (by omega) (by decide), nI_clamp (by omega), nI_clamp (by omega), hb _ (by omega), hf _ _ (by omega) (by omega), pk_mul, nI_add, lt_eq, lt_eq, nI_1]
      exact ih (u + 1) (by omega) (by omega)
theorem pcX {st : St} {a F v N : Nat} {cl b : Nat → Nat} (hN : 8 ≤ N) (hc : CellR a cl st) (hf : FarR F st) (hb : ∀ i, i < 49 → st 26 i = nI (b i)) (hv : v < 7) : F_X6_pairCost N (nI v) a st = some (nI (sumR (fun u => b (v * 7 + u) * frL F cl v u) v)) := by
  have h := pc_lp hc hf hb hv N 0 (by omega) (by omega)
  obtain ⟨h1, h2, h3, h4⟩ := hc
  unfold F_X6_pairCost
  rw [ck_d h1, lt_eq, h2, ck_in (by omega) (by decide), lt_eq, nI_clamp (by omega), (h3 v (by omega)).1, L8, pk_mul, lt_eq]
  exact h
def fkOk (fk : List (Option Nat × Nat × Option Nat)) : Prop := ∀ q, q ∈ fk → (∀ x, q.1 = some x → x ≤ 7) ∧ q.2.1 < 7 ∧ ∀ y, q.2.2 = some y → y < 7
theorem pass_fk {mem : Nat → Bool} {v : Nat} {T : TS} (hv : v < 7) (h : fkOk T.2.1) : fkOk (tPass mem v T).2.1 := by
  unfold tPass
  split
  · split
    · intro q hq
      rcases List.mem_append.mp hq with hq | hq
      · exact h q hq
      · simp at hq
        subst hq
        exact ⟨fun x hx => (by cases hx), hv, fun y hy => (by cases hy)⟩
    · exact h
  · exact h
theorem fork_fk {l r : Nat} {T : TS} (hl : l < 7) (hr : r < 7) (hla : T.2.2.1 ≤ 7) (h : fkOk T.2.1) : fkOk (tFork l r T).2.1 := by
  unfold tFork
  intro q hq
  rcases List.mem_append.mp hq with hq | hq
  · exact h q hq
  · simp at hq
    subst hq
    refine ⟨fun x hx => ?_, hl, fun y hy => (by cases hy; exact hr)⟩
    simp only at hx
    split at hx
    · cases hx
    · cases hx; exact hla
theorem run_fk {S : Sn} (hS : SnOk S) {mem may tn : Nat → Bool} : ∀ s, s ≤ sN S → fkOk (tRun S mem may tn s).2.1 := by
  intro s
  induction s with
  | zero => intro _ q hq; simp [tRun] at hq
  | succ s ih =>
    intro hs
    obtain ⟨a, b, c, d, -⟩ := hS.2.1 s (by omega)
    have h := ih (by omega)
    have hla := run_last hS (mem := mem) (may := may) (tn := tn) s (by omega)
    show fkOk (tStm S mem may tn s (tRun S mem may tn s)).2.1
    unfold tStm
    split
    · exact pass_fk b (fork_fk c d hla h)
    · split
      · exact pass_fk b (pass_fk c (pass_fk d h))
      · exact pass_fk b (pass_fk d (pass_fk c h))
theorem min_if (x y : Nat) (hx : x < 2 ^ 31) (hy : y < 2 ^ 31) : (if nI y < nI x then nI y else nI x) = nI (min x y) := by
  by_cases h : y < x
  · rw [if_pos ((nI_ltI hy hx).mpr h), Nat.min_eq_right (by omega)]
  · rw [if_neg (fun q => h ((nI_ltI hy hx).mp q)), Nat.min_eq_left (by omega)]
theorem fold_take {fr : Nat → Nat → Nat} {fk : List (Option Nat × Nat × Option Nat)} {f : Nat} (h : f < fk.length) : fAll fr (fk.take (f + 1)) = fStep fr (fAll fr (fk.take f)) (fk.getD f fkD) := by
  rw [List.take_succ, List.getD_eq_getElem?_getD, List.getElem?_eq_getElem h]
  exact fAll_add
theorem fr8L {F : Nat} {cl : Nat → Nat} (h7 : cl 7 = 7) (a v : Nat) : fr8 (frL F cl) a v = frL F cl a v := by
  unfold fr8
  by_cases h : a = 7
  · rw [if_pos h, h]
    unfold frL fz
    rw [h7]
    simp
  · rw [if_neg h]
theorem fk_lp {st : St} {a F set : Nat} {cl : Nat → Nat} {T : TS} (hc : CellR a cl st) (hf : FarR F st) (hT : TRep set T st) (hk : fkOk T.2.1) (hlen : T.2.1.length ≤ 20) (K : Int32 → Int32 → Option Int32) : ∀ (m f : Nat) (G : FS5), f ≤ T.2.1.length → T.2.1.length - f < m → G = fAll (frL F cl) (T.2.1.take f) → G.1 ≤ f → G.2.1 ≤ 7 → G.2.2.1 ≤ 7 → G.2.2.2.1 ≤ f → G.2.2.2.2 ≤ f → lp_X6_forkCost_18 a st K m (nI G.1) (nI (cl G.2.1)) (nI (cl G.2.2.1)) (nI G.2.2.2.1) (nI G.2.2.2.2) (nI f) = K (nI (fAll (frL F cl) T.2.1).2.2.2.1) (nI (fAll (frL F cl) T.2.1).2.2.2.2) := by
  obtain ⟨h1, h2, h3, h4⟩ := hc
  obtain ⟨t1, t2, t3, t4, t5, t6⟩ := hT
  intro m
  induction m with
  | zero => intro f G g1 g2; omega
  | succ m ih =>
    intro f G g1 g2 gG b1 b2 b3 b4 b5
    change lpB_X6_forkCost_18 a st K (lp_X6_forkCost_18 a st K m) _ _ _ _ _ _ = _
    unfold lpB_X6_forkCost_18
    rw [t3]
    by_cases hfl : f = T.2.1.length
    · rw [hfl, if_pos (nI_le (Nat.le_refl _) (by omega))]
      rw [gG, hfl, List.take_length]
    · have hfl2 : f < T.2.1.length := by omega
      obtain ⟨q1, q2, q3⟩ := t4 f hfl2
      have hmem : T.2.1.getD f fkD ∈ T.2.1 := by
        rw [List.getD_eq_getElem?_getD, List.getElem?_eq_getElem hfl2]
        exact List.getElem_mem hfl2
      obtain ⟨k1, k2, k3⟩ := hk _ hmem
      have hstep := fold_take (fr := frL F cl) hfl2
      generalize hq : T.2.1.getD f fkD = q at *
      obtain ⟨q0, qx, qy⟩ := q
      simp only at q1 q2 q3 k1 k2 k3 hstep
      have ef : (nI f).toNatClampNeg = f := nI_clamp (by omega)
      have hck : ∀ (x : Option Int32), ck (inb (nI f) 20) x = x := fun x => ck_in (by omega) (by decide) x
      obtain ⟨cx1, cx2⟩ := h3 qx (by omega)
      rw [if_neg (nI_ge hfl2 (by omega))]
      simp only [hck, ef, q2, h2, lt_eq, ck_in (show qx < 8 by omega) (show (8 : Nat) < 2 ^ 31 by decide), nI_clamp (show qx < 2 ^ 31 by omega), cx1]
      -- from the four numbers on
      have tail : ∀ (eA eB cA cB : Nat), eA ≤ 7 → eB ≤ 7 → cA ≤ f → cB ≤ f → fSt G q0 = (G.1, eA, eB, cA, cB) → ck (inb ((nI (cl eA) * (8 : Int32)) + nI (cl qx)) 64) (ck (inb ((nI (cl eB) * (8 : Int32)) + nI (cl qx)) 64) (if (st 30 f) = (-1 : Int32) then lp_X6_forkCost_18 a st K m (if (nI cB + (st 27 ((nI (cl eB) * (8 : Int32)) + nI (cl qx)).toNatClampNeg)) < (nI cA + (st 27 ((nI (cl eA) * (8 : Int32)) + nI (cl qx)).toNatClampNeg)) then (nI cB + (st 27 ((nI (cl eB) * (8 : Int32)) + nI (cl qx)).toNatClampNeg)) else (nI cA + (st 27 ((nI (cl eA) * (8 : Int32)) + nI (cl qx)).toNatClampNeg))) (nI (cl eA)) (nI (cl eB)) (if (nI cB + (st 27 ((nI (cl eB) * (8 : Int32)) + nI (cl qx)).toNatClampNeg)) < (nI cA + (st 27 ((nI (cl eA) * (8 : Int32)) + nI (cl qx)).toNatClampNeg)) then (nI cB + (st 27 ((nI (cl eB) * (8 : Int32)) + nI (cl qx)).toNatClampNeg)) else (nI cA + (st 27 ((nI (cl eA) * (8 : Int32)) + nI (cl qx)).toNatClampNeg))) (if (nI cB + (st 27 ((nI (cl eB) * (8 : Int32)) + nI (cl qx)).toNatClampNeg)) < (nI cA + (st 27 ((nI (cl eA) * (8 : Int32)) + nI (cl qx)).toNatClampNeg)) then (nI cB + (st 27 ((nI (cl eB) * (8 : Int32)) + nI (cl qx)).toNatClampNeg)) else (nI cA + (st 27 ((nI (cl eA) * (8 : Int32)) + nI (cl qx)).toNatClampNeg))) (nI f + 1) else ck (inb (st 30 f) 8) (ck (inb ((nI (cl eA) * (8 : Int32)) + (st a (st 30 f).toNatClampNeg)) 64) (ck (inb ((nI (cl eB) * (8 : Int32)) + (st a (st 30 f).toNatClampNeg)) 64) (lp_X6_forkCost_18 a st K m (nI G.1) (st a (st 30 f).toNatClampNeg) (nI (cl qx)) (if (nI cB + (st 27 ((nI (cl eB) * (8 : Int32)) + nI (cl qx)).toNatClampNeg)) < (nI cA + (st 27 ((nI (cl eA) * (8 : Int32)) + nI (cl qx)).toNatClampNeg)) then (nI cB + (st 27 ((nI (cl eB) * (8 : Int32)) + nI (cl qx)).toNatClampNeg)) else (nI cA + (st 27 ((nI (cl eA) * (8 : Int32)) + nI (cl qx)).toNatClampNeg))) (if (nI cB + (st 27 ((nI (cl eB) * (8 : Int32)) + (st a (st 30 f).toNatClampNeg)).toNatClampNeg)) < (nI cA + (st 27 ((nI (cl eA) * (8 : Int32)) + (st a (st 30 f).toNatClampNeg)).toNatClampNeg)) then (nI cB + (st 27 ((nI (cl eB) * (8 : Int32)) + (st a (st 30 f).toNatClampNeg)).toNatClampNeg)) else (nI cA + (st 27 ((nI (cl eA) * (8 : Int32)) + (st a (st 30 f).toNatClampNeg)).toNatClampNeg))) (nI f + 1)))))) = K (nI (fAll (frL F cl) T.2.1).2.2.2.1) (nI (fAll (frL F cl) T.2.1).2.2.2.2) := by
        intro eA eB cA cB x1 x2 x3 x4 hst
        have ca := (h3 eA (by omega)).2
        have cb := (h3 eB (by omega)).2
        have l1 := fz_le F (cl eA) (cl qx)
        have l2 := fz_le F (cl eB) (cl qx)
        have toX : (if (nI cB + (st 27 ((nI (cl eB) * (8 : Int32)) + nI (cl qx)).toNatClampNeg)) < (nI cA + (st 27 ((nI (cl eA) * (8 : Int32)) + nI (cl qx)).toNatClampNeg)) then (nI cB + (st 27 ((nI (cl eB) * (8 : Int32)) + nI (cl qx)).toNatClampNeg)) else (nI cA + (st 27 ((nI (cl eA) * (8 : Int32)) + nI (cl qx)).toNatClampNeg))) = nI (min (cA + frL F cl eA qx) (cB + frL F cl eB qx)) := by
          rw [L8, pk_mul, pk_mul, nI_add, nI_add, nI_clamp (by omega), nI_clamp (by omega), hf _ _ (by omega) (by omega), hf _ _ (by omega) (by omega), nI_add, nI_add]
          exact min_if _ _ (by omega) (by omega)
        rw [toX, L8, pk_mul, pk_mul, nI_add, nI_add, ck_in (by omega) (by decide), ck_in (by omega) (by decide), nI_1, q3]
        have e1 : min (cA + frL F cl eA qx) (cB + frL F cl eB qx) ≤ f + 1 := by
          have : frL F cl eA qx ≤ 1 := l1
          omega
        cases qy with
        | none =>
          rw [if_pos (by rfl)]
          have hG' : (min (cA + frL F cl eA qx) (cB + frL F cl eB qx), eA, eB, min (cA + frL F cl eA qx) (cB + frL F cl eB qx), min (cA + frL F cl eA qx) (cB + frL F cl eB qx)) = fAll (frL F cl) (T.2.1.take (f + 1)) := by
            rw [hstep, ← gG]
            unfold fStep
            simp only [hst, fr8L h4]
          exact ih (f + 1) _ (by omega) (by omega) hG' e1 x1 x2 e1 e1
        | some y =>
          have hy := k3 y rfl
          obtain ⟨cy1, cy2⟩ := h3 y (by omega)
          have l3 := fz_le F (cl eA) (cl y)
          have l4 := fz_le F (cl eB) (cl y)
          rw [if_neg (by rw [oI_nI]; intro h; have := congrArg Int32.toInt h; rw [nI_toInt (by omega), show (-1 : Int32).toInt = -1 by decide] at this; omega), oI_nI, ck_in (by omega) (by decide), nI_clamp (show y < 2 ^ 31 by omega), cy1, nI_add, nI_add, ck_in (by omega) (by decide), ck_in (by omega) (by decide), nI_clamp (by omega), nI_clamp (by omega), hf _ _ (by omega) (by omega), hf _ _ (by omega) (by omega), nI_add, nI_add, min_if _ _ (by omega) (by omega)]
          have hG' : (G.1, y, qx, min (cA + frL F cl eA qx) (cB + frL F cl eB qx), min (cA + frL F cl eA y) (cB + frL F cl eB y)) = fAll (frL F cl) (T.2.1.take (f + 1)) := by
            rw [hstep, ← gG]
            unfold fStep
            simp only [hst, fr8L h4]
          have e2 : min (cA + frL F cl eA y) (cB + frL F cl eB y) ≤ f + 1 := by
            have : frL F cl eA y ≤ 1 := l3
            omega
          exact ih (f + 1) _ (by omega) (by omega) hG' (by show G.1 ≤ f + 1; omega) (by show y ≤ 7; omega) (by show qx ≤ 7; omega) e1 e2
      cases q0 with
      | none =>
        rw [q1, if_pos (by rfl)]
        exact tail G.2.1 G.2.2.1 G.2.2.2.1 G.2.2.2.2 b2 b3 b4 b5 rfl
      | some x =>
        have hx := k1 x rfl
        obtain ⟨cx3, cx4⟩ := h3 x (by omega)
        rw [q1, if_neg (by rw [oI_nI]; intro h; have := congrArg Int32.toInt h; rw [nI_toInt (by omega), show (-1 : Int32).toInt = -1 by decide] at this; omega), oI_nI, ck_in (by omega) (by decide), nI_clamp (show x < 2 ^ 31 by omega), cx3]
        exact tail x x G.1 G.1 hx hx b1 b1 rfl
theorem fAll_le {fr : Nat → Nat → Nat} (h1 : ∀ a v, fr a v ≤ 1) (fk : List (Option Nat × Nat × Option Nat)) : ∀ f, f ≤ fk.length → (fAll fr (fk.take f)).1 ≤ f ∧ (fAll fr (fk.take f)).2.2.2.1 ≤ f ∧ (fAll fr (fk.take f)).2.2.2.2 ≤ f := by
  intro f
  induction f with
  | zero => intro _; exact ⟨Nat.le_refl _, Nat.le_refl _, Nat.le_refl _⟩
  | succ f ih =>
    intro h
    obtain ⟨a1, a2, a3⟩ := ih (by omega)
    rw [fold_take (by omega)]
    generalize fk.getD f fkD = q
    obtain ⟨q0, qx, qy⟩ := q
    generalize fAll fr (fk.take f) = G at a1 a2 a3
    have h8 : ∀ a v, fr8 fr a v ≤ 1 := by
      intro a v
      unfold fr8
      split
      · omega
      · exact h1 a v
    have hst : (fSt G q0).2.2.2.1 ≤ f ∧ (fSt G q0).2.2.2.2 ≤ f := by
      unfold fSt
      cases q0 with
      | none => exact ⟨a2, a3⟩
      | some x => exact ⟨a1, a1⟩
    unfold fStep
    cases qy with
    | none =>
      have := h8 (fSt G q0).2.1 qx
      simp only
      omega
    | some y =>
      have e1 := h8 (fSt G q0).2.1 qx
      have e2 := h8 (fSt G q0).2.1 y
      simp only
      omega
theorem fkX {st : St} {a F set N : Nat} {cl : Nat → Nat} {T : TS} (hN : 21 ≤ N) (hc : CellR a cl st) (hf : FarR F st) (hT : TRep set T st) (hk : fkOk T.2.1) (hlen : T.2.1.length ≤ 20) : F_X6_forkCost N a st = some (nI (min (fAll (frL F cl) T.2.1).2.2.2.1 (fAll (frL F cl) T.2.1).2.2.2.2)) := by
  obtain ⟨-, b1, b2⟩ := fAll_le (fr := frL F cl) (fun _ _ => fz_le _ _ _) T.2.1 T.2.1.length (Nat.le_refl _)
  rw [List.take_length] at b1 b2
  have h := fk_lp hc hf hT hk hlen (fun (v48 : Int32) (v49 : Int32) => some (if v49 < v48 then v49 else v48)) N 0 (0, 7, 7, 0, 0) (by omega) (by omega) rfl (Nat.le_refl _) (Nat.le_refl _) (Nat.le_refl _) (Nat.le_refl _) (Nat.le_refl _)
  rw [min_if _ _ (by omega) (by omega)] at h
  unfold F_X6_forkCost
  rw [ck_d hc.1, lt_eq, lt_eq, lt_eq, lt_eq, lt_eq, lt_eq]
  simp only [hc.2.2.2] at h
  exact h
theorem co_lp {st : St} {F N : Nat} {cl b : Nat → Nat} (hN : 8 ≤ N) (hc : CellR 31 cl st) (hf : FarR F st) (hb : ∀ i, i < 49 → st 26 i = nI (b i)) (c : Nat) : ∀ (m v : Nat), v ≤ 7 → 7 - v < m → lp_X6_cost_52 N st m (nI (c + sumR (fun v => sumR (fun u => b (v * 7 + u) * frL F cl v u) v) v)) (nI v) = some (nI (c + pS (frL F cl) b), st) := by
  intro m
  induction m with
  | zero => intro v h1 h2; omega
  | succ m ih =>
    intro v h1 h2
    change lpB_X6_cost_52 N st (lp_X6_cost_52 N st m) _ _ = _
    unfold lpB_X6_cost_52
    by_cases hv : v = 7
    · rw [hv, if_pos (by decide)]
      rfl
    · rw [if_neg (by rw [L7]; exact nI_ge (by omega) (by decide)), pcX hN hc hf hb (by omega), bs_s, lt_eq, lt_eq, nI_add, nI_1]
      have := ih (v + 1) (by omega) (by omega)
      rw [show c + sumR (fun v => sumR (fun u => b (v * 7 + u) * frL F cl v u) v) v + sumR (fun u => b (v * 7 + u) * frL F cl v u) v = c + sumR (fun v => sumR (fun u => b (v * 7 + u) * frL F cl v u) v) (v + 1) from Nat.add_assoc _ _ _]
      exact this
/-- the whole cost in these cells -/
theorem coX {st : St} {a F set N : Nat} {cl : Nat → Nat} {T : TS} (hN : 21 ≤ N) (hk : kd a = 9) (hl : 7 ≤ ln a) (ha : a ≠ 31) (hcl : ∀ v, v < 7 → st a v = nI (cl v) ∧ cl v ≤ 7) (h7 : cl 7 = 7) (hf : FarR F st) (hT : TRep set T st) (hfk : fkOk T.2.1) (hlen : T.2.1.length ≤ 20) (hla : T.2.2.1 ≤ 7) : ∃ g : Nat → Int32, F_X6_cost N a st = some (nI (tCost (frL F cl) T), upr st 31 g) := by
  obtain ⟨t1, t2, t3, t4, t5, t6⟩ := id hT
  have hdec : decide (0 ≤ (0 : Int32) ∧ 0 ≤ (0 : Int32) ∧ 0 ≤ (7 : Int32) ∧ (0 : Int32).toNatClampNeg + (7 : Int32).toNatClampNeg ≤ (ln a) ∧ (0 : Int32).toNatClampNeg + (7 : Int32).toNatClampNeg ≤ 8) = true := by
    apply decide_eq_true
    exact ⟨by decide, by decide, by decide, hl, by decide⟩
  have e7 : (7 : Int32).toNatClampNeg = 7 := by decide
  unfold F_X6_cost tCost
  rw [ck_d hk, lt_eq, hdec, ck_t, lt_eq, show inb (7 : Int32) 8 = true from by decide, ck_t, lt_eq, e7, c0, up_upr, t5, t6]
  have body : ∀ (g : Nat → Int32), g = upd (va_cpy (st a) (st 31) 0 0 7) 7 7 → bs (F_X6_forkCost N 31 (upr st 31 g)) (fun (r24 : Int32) => lt ((1 : Int32) + r24) (fun (v25 : Int32) => lt (1 : Int32) (fun (v26 : Int32) => lp_X6_cost_52 N (upr st 31 g) N v25 v26))) = some (nI (1 + min (fAll (frL F cl) T.2.1).2.2.2.1 (fAll (frL F cl) T.2.1).2.2.2.2 + pS (frL F cl) T.1), upr st 31 g) := by
    intro g hg
    have hc' : CellR 31 cl (upr st 31 g) := by
      refine ⟨rfl, rfl, ?_, h7⟩
      intro v hv
      rw [upr_app, if_pos rfl, hg, upd_app]
      by_cases hv7 : v = 7
      · rw [if_pos hv7, hv7, h7]; exact ⟨rfl, Nat.le_refl _⟩
      · rw [if_neg hv7, cpy0 (by omega)]; exact hcl v (by omega)
    have hf' : FarR F (upr st 31 g) := fun x y hx hy => by simp only [upr_app, Nat.reduceEqDiff, reduceIte]; exact hf x y hx hy
    have hT' : TRep set T (upr st 31 g) := by
      refine ⟨?_, ?_, ?_, ?_, ?_, ?_⟩
      · simp only [upr_app, Nat.reduceEqDiff, reduceIte]; exact t1
      · intro i hi; simp only [upr_app, Nat.reduceEqDiff, reduceIte]; exact t2 i hi
      · simp only [upr_app, Nat.reduceEqDiff, reduceIte]; exact t3
      · intro f hf; simp only [upr_app, Nat.reduceEqDiff, reduceIte]; exact t4 f hf
      · simp only [upr_app, Nat.reduceEqDiff, reduceIte]; exact t5
      · simp only [upr_app, Nat.reduceEqDiff, reduceIte]; exact t6
    rw [fkX hN hc' hf' hT' hfk hlen, bs_s, lt_eq, lt_eq, L1, nI_add]
    have := co_lp (N := N) (by omega) hc' hf' hT'.2.1 (1 + min (fAll (frL F cl) T.2.1).2.2.2.1 (fAll (frL F cl) T.2.1).2.2.2.2) N 1 (by omega) (by omega)
    rw [show sumR (fun v => sumR (fun u => T.1 (v * 7 + u) * frL F cl v u) v) 1 = 0 from rfl, Nat.add_zero] at this
    exact this
  have hb := body _ rfl
  by_cases h : T.2.2.1 = 7 ∧ T.2.2.2 = false
  · rw [if_pos h, h.1, h.2]
    refine ⟨st 31, ?_⟩
    rw [upr_id, if_pos (by rfl), if_pos (by rfl)]
    rfl
  · rw [if_neg h]
    refine ⟨upd (va_cpy (st a) (st 31) 0 0 7) 7 7, ?_⟩
    by_cases h1 : T.2.2.1 = 7
    · have h2 : T.2.2.2 = true := by
        cases hh : T.2.2.2 with
        | true => rfl
        | false => exact absurd ⟨h1, hh⟩ h
      rw [h1, h2, if_pos (by rfl), if_neg (by decide)]
      exact hb
    · rw [if_neg (by rw [L7, nI_eq (by omega) (by decide)]; exact h1)]
      exact hb
