-- sums
def sumR (f : Nat → Nat) : Nat → Nat
  | 0 => 0
  | n + 1 => sumR f n + f n
theorem sumR_add (f g : Nat → Nat) : ∀ n, sumR (fun i => f i + g i) n = sumR f n + sumR g n := by
  intro n
  induction n with
  | zero => rfl
  | succ n ih =>
    show sumR (fun i => f i + g i) n + (f n + g n) = _
    rw [ih]
    show _ = (sumR f n + f n) + (sumR g n + g n)
    omega
theorem sumR_congr {f g : Nat → Nat} : ∀ n, (∀ i, i < n → f i = g i) → sumR f n = sumR g n := by
  intro n
  induction n with
  | zero => intro _; rfl
  | succ n ih =>
    intro h
    show sumR f n + f n = sumR g n + g n
    rw [ih (fun i hi => h i (by omega)), h n (by omega)]
theorem sumR_zero : ∀ n, sumR (fun _ => 0) n = 0 := by
  intro n
  induction n with
  | zero => rfl
  | succ n ih => show sumR (fun _ => 0) n + 0 = 0; rw [ih]
theorem sumR_one {a : Nat} {x : Nat} : ∀ n, sumR (fun i => if i = a then x else 0) n = if a < n then x else 0 := by
  intro n
  induction n with
  | zero => simp [sumR]
  | succ n ih =>
    show sumR (fun i => if i = a then x else 0) n + (if n = a then x else 0) = _
    rw [ih]
    by_cases h1 : a < n
    · rw [if_pos h1, if_neg (by omega), if_pos (by omega)]; rfl
    · by_cases h2 : n = a
      · rw [if_neg h1, if_pos h2, if_pos (by omega)]; omega
      · rw [if_neg h1, if_neg h2, if_neg (by omega)]
/-- what the pairs cost -/
def pS (fr : Nat → Nat → Nat) (b : Nat → Nat) : Nat := sumR (fun v => sumR (fun u => b (v * 7 + u) * fr v u) v) 7
theorem pS_zero (fr : Nat → Nat → Nat) : pS fr (fun _ => 0) = 0 := by
  unfold pS
  rw [sumR_congr (g := fun _ => 0) 7 (fun v hv => ?_), sumR_zero]
  rw [sumR_congr (g := fun _ => 0) v (fun u hu => by simp), sumR_zero]
theorem pS_ind {fr : Nat → Nat → Nat} {x y : Nat} (hx : x < 7) (hy : y < 7) : sumR (fun v => sumR (fun u => (if v * 7 + u = x * 7 + y then 1 else 0) * fr v u) v) 7 = if y < x then fr x y else 0 := by
  have h1 : ∀ v, v < 7 → sumR (fun u => (if v * 7 + u = x * 7 + y then 1 else 0) * fr v u) v = if v = x then (if y < x then fr x y else 0) else 0 := by
    intro v hv
    by_cases e : v = x
    · subst e
      rw [if_pos rfl, sumR_congr (g := fun u => if u = y then fr v y else 0) v (fun u hu => ?_), sumR_one]
      by_cases e2 : u = y
      · subst e2; simp
      · rw [if_neg (by omega), if_neg e2]; omega
    · rw [if_neg e, sumR_congr (g := fun _ => 0) v (fun u hu => ?_), sumR_zero]
      rw [if_neg (by omega)]; omega
  rw [sumR_congr 7 h1, sumR_one, if_pos hx]
theorem pS_pair {fr : Nat → Nat → Nat} (hs : ∀ a b, a < 7 → b < 7 → fr a b = fr b a) {u v : Nat} {b : Nat → Nat} (hu : u < 7) (hv : v < 7) (hne : u ≠ v) : pS fr (tPair u v b) = pS fr b + fr u v := by
  unfold pS tPair
  have e : ∀ w, w < 7 → sumR (fun x => ((if w * 7 + x = v * 7 + u then 1 else 0) + ((if w * 7 + x = u * 7 + v then 1 else 0) + b (w * 7 + x))) * fr w x) w = sumR (fun x => (if w * 7 + x = v * 7 + u then 1 else 0) * fr w x) w + (sumR (fun x => (if w * 7 + x = u * 7 + v then 1 else 0) * fr w x) w + sumR (fun x => b (w * 7 + x) * fr w x) w) := by
    intro w hw
    rw [← sumR_add, ← sumR_add]
    apply sumR_congr
    intro i hi
    rw [Nat.add_mul, Nat.add_mul]
  rw [sumR_congr 7 e, sumR_add, sumR_add, pS_ind hv hu, pS_ind hu hv]
  by_cases h : u < v
  · rw [if_pos h, if_neg (by omega), hs v u hv hu]; omega
  · rw [if_neg h, if_pos (by omega)]; omega
-- forks and joins
abbrev FS5 : Type := Nat × Nat × Nat × Nat × Nat
def fr8 (fr : Nat → Nat → Nat) (a v : Nat) : Nat := if a = 7 then 0 else fr a v
def fSt (F : FS5) (q : Option Nat) : FS5 := match q with
  | none => F
  | some a => (F.1, a, a, F.1, F.1)
def fStep (fr : Nat → Nat → Nat) (F : FS5) (q : Option Nat × Nat × Option Nat) : FS5 := match q.2.2 with
  | none => (min ((fSt F q.1).2.2.2.1 + fr8 fr (fSt F q.1).2.1 q.2.1) ((fSt F q.1).2.2.2.2 + fr8 fr (fSt F q.1).2.2.1 q.2.1), (fSt F q.1).2.1, (fSt F q.1).2.2.1, min ((fSt F q.1).2.2.2.1 + fr8 fr (fSt F q.1).2.1 q.2.1) ((fSt F q.1).2.2.2.2 + fr8 fr (fSt F q.1).2.2.1 q.2.1), min ((fSt F q.1).2.2.2.1 + fr8 fr (fSt F q.1).2.1 q.2.1) ((fSt F q.1).2.2.2.2 + fr8 fr (fSt F q.1).2.2.1 q.2.1))
  | some y => (F.1, y, q.2.1, min ((fSt F q.1).2.2.2.1 + fr8 fr (fSt F q.1).2.1 q.2.1) ((fSt F q.1).2.2.2.2 + fr8 fr (fSt F q.1).2.2.1 q.2.1), min ((fSt F q.1).2.2.2.1 + fr8 fr (fSt F q.1).2.1 y) ((fSt F q.1).2.2.2.2 + fr8 fr (fSt F q.1).2.2.1 y))
def fAll (fr : Nat → Nat → Nat) (fk : List (Option Nat × Nat × Option Nat)) : FS5 := fk.foldl (fStep fr) (0, 7, 7, 0, 0)
theorem fAll_add {fr : Nat → Nat → Nat} {fk : List (Option Nat × Nat × Option Nat)} {q : Option Nat × Nat × Option Nat} : fAll fr (fk ++ [q]) = fStep fr (fAll fr fk) q := by
  unfold fAll
  rw [List.foldl_append]
  rfl
def tWF (fr : Nat → Nat → Nat) (T : TS) : Prop := T.2.2.1 ≤ 7 ∧ (T.2.2.2 = false → (fAll fr T.2.1).2.2.2.1 = (fAll fr T.2.1).1 ∧ (fAll fr T.2.1).2.2.2.2 = (fAll fr T.2.1).1 ∧ (T.2.2.1 = 7 → pS fr T.1 = 0 ∧ (fAll fr T.2.1).1 = 0)) ∧ (T.2.2.2 = true → (fAll fr T.2.1).2.1 < 7 ∧ (fAll fr T.2.1).2.2.1 < 7)
/-- the least of all that goes on from here, phi being what is still to come behind a variable -/
def tVal (fr : Nat → Nat → Nat) (phi : Nat → Nat) (T : TS) : Nat := if T.2.2.2 then min (1 + pS fr T.1 + (fAll fr T.2.1).2.2.2.1 + phi (fAll fr T.2.1).2.1) (1 + pS fr T.1 + (fAll fr T.2.1).2.2.2.2 + phi (fAll fr T.2.1).2.2.1) else if T.2.2.1 = 7 then phi 7 else 1 + pS fr T.1 + (fAll fr T.2.1).1 + phi T.2.2.1
def cst (fr : Nat → Nat → Nat) (a v : Nat) : Nat := if a = 7 then 1 else fr a v
def Sym (fr : Nat → Nat → Nat) : Prop := (∀ a b, a < 7 → b < 7 → fr a b = fr b a) ∧ ∀ a, a < 7 → fr a a = 0
theorem pass_val {fr : Nat → Nat → Nat} (hs : Sym fr) {mem : Nat → Bool} {v : Nat} {T : TS} {phi : Nat → Nat} (hv : v < 7) (hm : mem v = true) (hT : tWF fr T) : tWF fr (tPass mem v T) ∧ tVal fr phi (tPass mem v T) = tVal fr (fun a => cst fr a v + phi v) T := by
  obtain ⟨b, fk, la, op⟩ := T
  obtain ⟨h1, h2, h3⟩ := hT
  simp only at h1 h2 h3
  unfold tPass
  simp only [hm, if_true]
  cases op with
  | true =>
    obtain ⟨e1, e2⟩ := h3 rfl
    simp only [if_true]
    refine ⟨⟨by simp only; omega, ?_, fun h => by cases h⟩, ?_⟩
    · intro _
      simp only [fAll_add]
      unfold fStep fSt
      exact ⟨rfl, rfl, fun h => absurd (show v = 7 from h) (by omega)⟩
    · unfold tVal
      simp only [fAll_add, if_true, Bool.false_eq_true, if_false]
      rw [if_neg (by omega)]
      unfold fStep fSt fr8 cst
      simp only [if_neg (show ¬ (fAll fr fk).2.1 = 7 by omega), if_neg (show ¬ (fAll fr fk).2.2.1 = 7 by omega)]
      omega
  | false =>
    obtain ⟨e1, e2, e3⟩ := h2 rfl
    simp only [Bool.false_eq_true, if_false]
    by_cases h7 : la = 7
    · obtain ⟨z1, z2⟩ := e3 h7
      simp only [h7, true_or, if_true]
      refine ⟨⟨by simp only; omega, fun _ => ⟨e1, e2, fun h => absurd (show v = 7 from h) (by omega)⟩, fun h => by cases h⟩, ?_⟩
      unfold tVal cst
      simp only [Bool.false_eq_true, if_false, if_true]
      rw [if_neg (by omega), z1, z2]
    · by_cases hlv : la = v
      · subst hlv
        simp only [or_true, if_true]
        refine ⟨⟨by simp only; omega, fun _ => ⟨e1, e2, fun h => absurd (show la = 7 from h) h7⟩, fun h => by cases h⟩, ?_⟩
        unfold tVal cst
        simp only [Bool.false_eq_true, if_false]
        rw [if_neg h7, if_neg h7, if_neg h7, hs.2 la hv]
        omega
      · have hor : ¬ (la = 7 ∨ la = v) := by rintro (a | a) <;> contradiction
        simp only [if_neg hor]
        have hp := pS_pair (b := b) hs.1 (show la < 7 by omega) hv hlv
        refine ⟨⟨by simp only; omega, fun _ => ⟨e1, e2, fun h => absurd (show v = 7 from h) (by omega)⟩, fun h => by cases h⟩, ?_⟩
        unfold tVal cst
        simp only [Bool.false_eq_true, if_false]
        rw [if_neg h7, if_neg h7, if_neg (by omega), hp]
        omega
theorem fork_val {fr : Nat → Nat → Nat} (hs : Sym fr) {l r : Nat} {T : TS} {phi : Nat → Nat} (hl : l < 7) (hr : r < 7) (hne : l ≠ r) (hT : tWF fr T) : tWF fr (tFork l r T) ∧ tVal fr phi (tFork l r T) = tVal fr (fun a => min (cst fr a l + (fr l r + phi r)) (cst fr a r + (fr r l + phi l))) T := by
  obtain ⟨b, fk, la, op⟩ := T
  obtain ⟨h1, h2, h3⟩ := hT
  simp only at h1 h2 h3
  have hp := pS_pair (b := b) hs.1 hl hr hne
  have hsy := hs.1 l r hl hr
  unfold tFork
  cases op with
  | true =>
    obtain ⟨e1, e2⟩ := h3 rfl
    simp only [if_true]
    refine ⟨⟨h1, fun h => (by cases h), fun _ => ?_⟩, ?_⟩
    · simp only [fAll_add]
      unfold fStep
      exact ⟨hr, hl⟩
    · unfold tVal
      simp only [fAll_add, if_true]
      unfold fStep fSt fr8 cst
      simp only [if_neg (show ¬ (fAll fr fk).2.1 = 7 by omega), if_neg (show ¬ (fAll fr fk).2.2.1 = 7 by omega), hp]
      omega
  | false =>
    obtain ⟨e1, e2, e3⟩ := h2 rfl
    simp only [Bool.false_eq_true, if_false]
    refine ⟨⟨h1, fun h => (by cases h), fun _ => ?_⟩, ?_⟩
    · simp only [fAll_add]
      unfold fStep
      exact ⟨hr, hl⟩
    · unfold tVal
      simp only [fAll_add, if_true, Bool.false_eq_true, if_false]
      unfold fStep fSt fr8 cst
      simp only
      by_cases h7 : la = 7
      · obtain ⟨z1, z2⟩ := e3 h7
        simp only [h7, if_true]
        rw [hp, z1, z2]
        omega
      · simp only [if_neg h7]
        rw [hp]
        omega
theorem pass_no {mem : Nat → Bool} {v : Nat} {T : TS} (hm : mem v = false) : tPass mem v T = T := by
  unfold tPass
  rw [hm]
  rfl
/-- what a list of variables adds -/
def ext (fr : Nat → Nat → Nat) (mem : Nat → Bool) (l : List Nat) (phi : Nat → Nat) (a : Nat) : Nat := (wk fr mem a l).1 + phi (wk fr mem a l).2
theorem ext_cons {fr : Nat → Nat → Nat} {mem : Nat → Bool} {v : Nat} {l : List Nat} {phi : Nat → Nat} {a : Nat} : ext fr mem (v :: l) phi a = if mem v then cst fr a v + ext fr mem l phi v else ext fr mem l phi a := by
  unfold ext cst
  show (wk fr mem a (v :: l)).1 + phi (wk fr mem a (v :: l)).2 = _
  rw [show wk fr mem a (v :: l) = if mem v then ((if a = 7 then 1 else fr a v) + (wk fr mem v l).1, (wk fr mem v l).2) else wk fr mem a l from rfl]
  by_cases hm : mem v = true
  · simp only [hm, if_true]; omega
  · simp only [hm]; rfl
theorem passE {fr : Nat → Nat → Nat} (hs : Sym fr) {mem : Nat → Bool} {v : Nat} {T : TS} {phi : Nat → Nat} {l : List Nat} (hv : v < 7) (hT : tWF fr T) : tWF fr (tPass mem v T) ∧ tVal fr (ext fr mem l phi) (tPass mem v T) = tVal fr (ext fr mem (v :: l) phi) T := by
  by_cases hm : mem v = true
  · obtain ⟨h1, h2⟩ := pass_val (phi := ext fr mem l phi) hs hv hm hT
    refine ⟨h1, ?_⟩
    rw [h2]
    congr 1
    funext a
    rw [ext_cons, if_pos hm]
  · have hm2 : mem v = false := by cases h : mem v; rfl; exact absurd h hm
    rw [pass_no hm2]
    refine ⟨hT, ?_⟩
    congr 1
    funext a
    rw [ext_cons, if_neg hm]
/-- the least cost of the last k statements: those of may either way, the others as tn tells -/
def pyG (S : Sn) (fr : Nat → Nat → Nat) (mem may tn : Nat → Bool) : Nat → Nat → Nat
  | 0, _ => 0
  | k + 1, a => if may (sN S - (k + 1)) then min (ext fr mem (sq S (sN S - (k + 1)) false) (pyG S fr mem may tn k) a) (ext fr mem (sq S (sN S - (k + 1)) true) (pyG S fr mem may tn k) a) else ext fr mem (sq S (sN S - (k + 1)) (tn (sN S - (k + 1)))) (pyG S fr mem may tn k) a
theorem tVal_congr {fr : Nat → Nat → Nat} {phi psi : Nat → Nat} {T : TS} (h : ∀ a, phi a = psi a) : tVal fr phi T = tVal fr psi T := by
  rw [show phi = psi from funext h]
theorem stm_val {S : Sn} {fr : Nat → Nat → Nat} (hs : Sym fr) {mem may tn : Nat → Bool} {s : Nat} {T : TS} {phi : Nat → Nat} (hb : sT S s < 7 ∧ sL S s < 7 ∧ sR S s < 7) (h0 : sK S s = 0 → sR S s = sL S s) (hm : may s = true → sK S s ≠ 0 ∧ sL S s ≠ sR S s) (hT : tWF fr T) : tWF fr (tStm S mem may tn s T) ∧ tVal fr phi (tStm S mem may tn s T) = tVal fr (fun a => if may s then min (ext fr mem (sq S s false) phi a) (ext fr mem (sq S s true) phi a) else ext fr mem (sq S s (tn s)) phi a) T := by
  have e0 : phi = ext fr mem [] phi := by funext a; unfold ext; show phi a = 0 + phi a; omega
  -- three passes, any order
  have three : ∀ x y : Nat, x < 7 → y < 7 → tWF fr (tPass mem (sT S s) (tPass mem y (tPass mem x T))) ∧ tVal fr phi (tPass mem (sT S s) (tPass mem y (tPass mem x T))) = tVal fr (ext fr mem [x, y, sT S s] phi) T := by
    intro x y hx hy
    obtain ⟨a1, a2⟩ := passE (phi := phi) (mem := mem) (l := [y, sT S s]) hs hx hT
    obtain ⟨b1, b2⟩ := passE (phi := phi) (mem := mem) (l := [sT S s]) hs hy a1
    obtain ⟨c1, c2⟩ := passE (phi := phi) (mem := mem) (l := []) hs hb.1 b1
    refine ⟨c1, ?_⟩
    rw [← a2, ← b2, ← c2]
    exact tVal_congr (fun a => by rw [← e0])
  have copy : ∀ (x : Nat) (l : List Nat) (a : Nat), x < 7 → ext fr mem (x :: x :: l) phi a = ext fr mem (x :: l) phi a := by
    intro x l a hx
    by_cases hmx : mem x = true
    · simp only [ext_cons, if_pos hmx]
      unfold cst
      rw [if_neg (show ¬ x = 7 by omega), hs.2 x hx]
      omega
    · simp only [ext_cons, if_neg hmx]
  unfold tStm
  by_cases hf : (may s && (mem (sL S s) && mem (sR S s))) = true
  · rw [if_pos hf]
    simp only [Bool.and_eq_true] at hf
    obtain ⟨f1, f2, f3⟩ := hf
    obtain ⟨k1, k2⟩ := hm f1
    obtain ⟨a1, a2⟩ := fork_val (phi := ext fr mem [sT S s] phi) hs hb.2.1 hb.2.2 k2 hT
    obtain ⟨c1, c2⟩ := passE (phi := phi) (mem := mem) (l := []) hs hb.1 a1
    refine ⟨c1, ?_⟩
    rw [show tVal fr phi (tPass mem (sT S s) (tFork (sL S s) (sR S s) T)) = tVal fr (ext fr mem [] phi) (tPass mem (sT S s) (tFork (sL S s) (sR S s) T)) from tVal_congr (fun a => by rw [← e0]), c2, a2]
    apply tVal_congr
    intro a
    rw [if_pos f1]
    unfold sq
    rw [if_neg k1, if_neg k1]
    simp only [Bool.false_eq_true, if_false, if_true]
    simp only [ext_cons, if_pos f2, if_pos f3]
    unfold cst
    simp only [if_neg (show ¬ sL S s = 7 by omega), if_neg (show ¬ sR S s = 7 by omega)]
  · rw [if_neg hf]
    -- a statement that isn't forked: either way the same, where it may be turned
    have same : may s = true → ∀ a, ext fr mem (sq S s false) phi a = ext fr mem (sq S s true) phi a := by
      intro f1 a
      obtain ⟨k1, k2⟩ := hm f1
      unfold sq
      rw [if_neg k1, if_neg k1]
      simp only [Bool.false_eq_true, if_false, if_true]
      simp only [ext_cons]
      cases hL : mem (sL S s) with
      | false => simp
      | true =>
        cases hR : mem (sR S s) with
        | false => simp
        | true =>
          exfalso
          apply hf
          rw [f1, hL, hR]
          rfl
    have hany : ∀ (t : Bool) (a : Nat), ext fr mem (sq S s t) phi a = ext fr mem (if t then [sR S s, sL S s, sT S s] else [sL S s, sR S s, sT S s]) phi a := by
      intro t a
      unfold sq
      by_cases hk : sK S s = 0
      · rw [if_pos hk, h0 hk]
        cases t
        · simp only [Bool.false_eq_true, if_false]; rw [copy _ _ _ hb.2.1]
        · simp only [if_true]; rw [copy _ _ _ hb.2.1]
      · rw [if_neg hk]
    cases ht : tn s with
    | true =>
      simp only [if_true]
      obtain ⟨c1, c2⟩ := three (sR S s) (sL S s) hb.2.2 hb.2.1
      refine ⟨c1, ?_⟩
      rw [c2]
      apply tVal_congr
      intro a
      by_cases f1 : may s = true
      · rw [if_pos f1, same f1 a, hany true a]; simp
      · rw [if_neg f1, hany true a]; rfl
    | false =>
      simp only [Bool.false_eq_true, if_false]
      obtain ⟨c1, c2⟩ := three (sL S s) (sR S s) hb.2.1 hb.2.2
      refine ⟨c1, ?_⟩
      rw [c2]
      apply tVal_congr
      intro a
      by_cases f1 : may s = true
      · rw [if_pos f1, ← same f1 a, hany false a]; simp
      · rw [if_neg f1, hany false a]; rfl
theorem run_val {S : Sn} (hS : SnOk S) {fr : Nat → Nat → Nat} (hs : Sym fr) {mem may tn : Nat → Bool} (hm : ∀ s, s < sN S → may s = true → sK S s ≠ 0 ∧ sL S s ≠ sR S s) : ∀ s, s ≤ sN S → tWF fr (tRun S mem may tn s) ∧ tVal fr (pyG S fr mem may tn (sN S - s)) (tRun S mem may tn s) = pyG S fr mem may tn (sN S) 7 := by
  intro s
  induction s with
  | zero =>
    intro _
    refine ⟨⟨by simp [tRun], fun _ => ⟨rfl, rfl, fun _ => ⟨pS_zero fr, rfl⟩⟩, fun h => by cases h⟩, ?_⟩
    unfold tVal tRun
    simp
  | succ s ih =>
    intro h
    obtain ⟨a1, a2⟩ := ih (by omega)
    obtain ⟨b1, b2, b3, b4, b5⟩ := hS.2.1 s (by omega)
    obtain ⟨c1, c2⟩ := stm_val (phi := pyG S fr mem may tn (sN S - (s + 1))) (tn := tn) (mem := mem) hs ⟨b2, b3, b4⟩ b5 (hm s (by omega)) a1
    refine ⟨c1, ?_⟩
    show tVal fr _ (tStm S mem may tn s (tRun S mem may tn s)) = _
    rw [c2, ← a2]
    apply tVal_congr
    intro a
    rw [show sN S - s = (sN S - (s + 1)) + 1 by omega]
    unfold pyG
    rw [show sN S - (sN S - (s + 1) + 1) = s by omega]
/-- the cost as the class adds it -/
def tCost (fr : Nat → Nat → Nat) (T : TS) : Nat := if T.2.2.1 = 7 ∧ T.2.2.2 = false then 0 else 1 + min (fAll fr T.2.1).2.2.2.1 (fAll fr T.2.1).2.2.2.2 + pS fr T.1
theorem cost_val {S : Sn} (hS : SnOk S) {fr : Nat → Nat → Nat} (hs : Sym fr) {mem may tn : Nat → Bool} (hm : ∀ s, s < sN S → may s = true → sK S s ≠ 0 ∧ sL S s ≠ sR S s) : tCost fr (tRun S mem may tn (sN S)) = pyG S fr mem may tn (sN S) 7 := by
  obtain ⟨h1, h2⟩ := run_val (tn := tn) (mem := mem) hS hs hm (sN S) (Nat.le_refl _)
  rw [← h2, Nat.sub_self]
  generalize tRun S mem may tn (sN S) = T at h1
  obtain ⟨b, fk, la, op⟩ := T
  obtain ⟨g1, g2, g3⟩ := h1
  simp only at g1 g2 g3
  unfold tCost tVal pyG
  simp only
  cases op with
  | true => simp; omega
  | false =>
    obtain ⟨e1, e2, e3⟩ := g2 rfl
    by_cases h7 : la = 7
    · simp [h7]
    · simp [h7, e1, e2]; omega
theorem py_pyG {S : Sn} {fr : Nat → Nat → Nat} {mem : Nat → Bool} {mode : Bool} : ∀ (k a : Nat), py S fr mem mode k a = pyG S fr mem (fun s => mode && canT S s) (fun _ => false) k a := by
  intro k
  induction k with
  | zero => intro a; rfl
  | succ k ih =>
    intro a
    unfold py pyG ext
    simp only [ih]
