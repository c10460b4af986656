-- the document's words, as both sides compute them
def far (F a b : Nat) : Bool := decide (a ≠ b) && !(F.testBit (if a < b then b - a else a - b))
def canT (S : Sn) (s : Nat) : Bool := (decide (sK S s = 1) || decide (sK S s = 3) || decide (sK S s = 4)) && decide (sL S s ≠ sR S s)
def sq (S : Sn) (s : Nat) (t : Bool) : List Nat := if sK S s = 0 then [sL S s, sT S s] else if t then [sR S s, sL S s, sT S s] else [sL S s, sR S s, sT S s]
/-- one register's way through what is seen: the cost, and the variable that was seen last (7: none) -/
def wk (fr : Nat → Nat → Nat) (mem : Nat → Bool) : Nat → List Nat → Nat × Nat
  | a, [] => (0, a)
  | a, v :: vs => if mem v then ((if a = 7 then 1 else fr a v) + (wk fr mem v vs).1, (wk fr mem v vs).2) else wk fr mem a vs
def frC (F : Nat) (cell : Nat → Nat) (a v : Nat) : Nat := if far F (cell a) (cell v) then 1 else 0
/-- the least cost of the last k statements, behind variable a -/
def py (S : Sn) (fr : Nat → Nat → Nat) (mem : Nat → Bool) (mode : Bool) : Nat → Nat → Nat
  | 0, _ => 0
  | k + 1, a => if mode && canT S (sN S - (k + 1)) then min ((wk fr mem a (sq S (sN S - (k + 1)) false)).1 + py S fr mem mode k (wk fr mem a (sq S (sN S - (k + 1)) false)).2) ((wk fr mem a (sq S (sN S - (k + 1)) true)).1 + py S fr mem mode k (wk fr mem a (sq S (sN S - (k + 1)) true)).2)
      else (wk fr mem a (sq S (sN S - (k + 1)) false)).1 + py S fr mem mode k (wk fr mem a (sq S (sN S - (k + 1)) false)).2
def usedS (S : Sn) : Nat := (List.range (sN S)).foldl (fun u s => u ||| 2 ^ sT S s ||| 2 ^ sL S s ||| 2 ^ sR S s) 0
def mems (set : Nat) : List Nat := (List.range 7).filter (fun v => set.testBit v)
def cellOf (ms row : List Nat) (v : Nat) : Nat := row.getD (ms.idxOf v) 0
/-- all rows of n cells, in order: those that begin with pre -/
def lvs (n : Nat) : Nat → List Nat → List (List Nat)
  | 0, pre => [pre]
  | k + 1, pre => (List.range n).flatMap (fun c => if pre.contains c then [] else lvs n k (pre ++ [c]))
def perms (n : Nat) : List (List Nat) := lvs n n []
/-- the first of the least -/
def fm {α : Type} (f : α → Nat) (acc : Option (Nat × α)) (x : α) : Option (Nat × α) := match acc with
  | none => some (f x, x)
  | some q => if f x < q.1 then some (f x, x) else some q
def costRow (S : Sn) (set : Nat) (mode : Bool) (row : List Nat) : Nat := py S (frC (sF S) (cellOf (mems set) row)) (fun v => set.testBit v) mode (sN S) 7
def opt (S : Sn) (set : Nat) (mode : Bool) : Nat × List Nat := ((perms (mems set).length).foldl (fm (costRow S set mode)) none).getD (0, [])
/-- all ways to give k variables registers 0 to r-1, in order -/
def asgs (r : Nat) : Nat → List (List Nat)
  | 0 => [[]]
  | k + 1 => (List.range r).flatMap (fun g => (asgs r k).map (fun l => g :: l))
/-- the set of variables that the register g has -/
def blk (us asg : List Nat) (g : Nat) : Nat := ((us.zip asg).filter (fun q => q.2 == g)).foldl (fun u q => u ||| 2 ^ q.1) 0
def costAsg (S : Sn) (mode : Bool) (asg : List Nat) : Nat := (opt S (blk (mems (usedS S)) asg 0) mode).1 + (opt S (blk (mems (usedS S)) asg 1) mode).1 + (opt S (blk (mems (usedS S)) asg 2) mode).1
def planA (S : Sn) (r : Nat) (mode : Bool) : Nat × List Nat := ((asgs r (mems (usedS S)).length).foldl (fm (costAsg S mode)) none).getD (0, [])
def regOf (S : Sn) (r : Nat) (mode : Bool) (v : Nat) : Nat := cellOf (mems (usedS S)) (planA S r mode).2 v
def blkOf (S : Sn) (r : Nat) (mode : Bool) (g : Nat) : Nat := blk (mems (usedS S)) (planA S r mode).2 g
def cellP (S : Sn) (r : Nat) (mode : Bool) (v : Nat) : Nat := cellOf (mems (blkOf S r mode (regOf S r mode v))) (opt S (blkOf S r mode (regOf S r mode v)) mode).2 v
/-- statements that are turned in one register, the first ones as seldom as can be: of the last k ones, behind variable a -/
def tg (S : Sn) (fr : Nat → Nat → Nat) (mem : Nat → Bool) (mode : Bool) : Nat → Nat → Nat
  | 0, _ => 0
  | k + 1, a => if (wk fr mem a (sq S (sN S - (k + 1)) false)).1 + py S fr mem mode k (wk fr mem a (sq S (sN S - (k + 1)) false)).2 = py S fr mem mode (k + 1) a then tg S fr mem mode k (wk fr mem a (sq S (sN S - (k + 1)) false)).2
      else 2 ^ (sN S - (k + 1)) ||| tg S fr mem mode k (wk fr mem a (sq S (sN S - (k + 1)) true)).2
def turnB (S : Sn) (set : Nat) (mode : Bool) : Nat := tg S (frC (sF S) (cellOf (mems set) (opt S set mode).2)) (fun v => set.testBit v) mode (sN S) 7
def turnP (S : Sn) (r : Nat) (mode : Bool) : Nat := turnB S (blkOf S r mode 0) mode ||| turnB S (blkOf S r mode 1) mode ||| turnB S (blkOf S r mode 2) mode
def filled (S : Sn) (r : Nat) (mode : Bool) : Nat := (if blkOf S r mode 0 ≠ 0 then 1 else 0) + (if blkOf S r mode 1 ≠ 0 then 1 else 0) + (if blkOf S r mode 2 ≠ 0 then 1 else 0)
/-- a layout in one number: three bits a variable -/
def pack (ms row : List Nat) : Nat := ms.foldl (fun u v => u ||| cellOf ms row v * 8 ^ v) 0
-- what is kept between calls
def sub (a b : Nat) : Bool := (List.range 7).all (fun v => !(a.testBit v) || b.testBit v)
def FarOk (S : Sn) (st : St) : Prop := ∀ a b, a < 8 → b < 8 → st 27 (a * 8 + b) = bi (decide (a < 7) && decide (b < 7) && far (sF S) a b)
def ScrOk (st : St) : Prop := (∀ v, v < 8 → st 34 v = 7) ∧ (∀ g, g < 3 → st 62 g = 0) ∧ ∀ p v, p < 6 → v < 7 → ∃ c : Nat, c < 7 ∧ st (40 + 3 * p) v = nI c
theorem ScrOk.kept {st st' : St} (h : ScrOk st) (h34 : st' 34 = st 34) (h62 : st' 62 = st 62) (hp : ∀ p, p < 6 → st' (40 + 3 * p) = st (40 + 3 * p)) : ScrOk st' := by
  refine ⟨?_, ?_, ?_⟩
  · rw [h34]; exact h.1
  · rw [h62]; exact h.2.1
  · intro p v h1 h2
    rw [hp p h1]
    exact h.2.2 p v h1 h2
def FloOk (S : Sn) (st : St) : Prop := ∀ (mode : Bool) (set : Nat), 0 < set → set < 128 → sub set (usedS S) = true → ∃ f : Nat, st (57 + mode.toNat) set = nI f ∧ f ≤ (opt S set mode).1 ∧ (st (60 + mode.toNat) set = -1 ∨ (f = (opt S set mode).1 ∧ st (60 + mode.toNat) set = nI (pack (mems set) (opt S set mode).2)))
def PlaOk (S : Sn) (st : St) : Prop := ∀ (r : Nat) (mode : Bool), 1 ≤ r → r ≤ 3 → st (38 + 3 * (2 * (r - 1) + mode.toNat)) 0 = 0 ∨ (st (38 + 3 * (2 * (r - 1) + mode.toNat)) 0 = 1 ∧ st (38 + 3 * (2 * (r - 1) + mode.toNat)) 1 = nI (planA S r mode).1 ∧ st (38 + 3 * (2 * (r - 1) + mode.toNat)) 2 = nI (filled S r mode) ∧ st (38 + 3 * (2 * (r - 1) + mode.toNat)) 3 = nI (turnP S r mode) ∧ ∀ v, v < 7 → (usedS S).testBit v = true → st (38 + 3 * (2 * (r - 1) + mode.toNat) + 1) v = nI (regOf S r mode v) ∧ st (38 + 3 * (2 * (r - 1) + mode.toNat) + 2) v = nI (cellP S r mode v))
def ModOk (S : Sn) (st : St) : Prop := ∀ (mode : Bool), st 78 mode.toNat = 1 ∨ (st 78 mode.toNat = 0 ∧ st 82 (128 * mode.toNat) = 0 ∧ ∀ set, 0 < set → set < 128 → sub set (usedS S) = true → st 82 (128 * mode.toNat + set) = nI (opt S set mode).1 ∧ ∀ v, v < 7 → set.testBit v = true → st 83 (7 * (128 * mode.toNat + set) + v) = nI (cellOf (mems set) (opt S set mode).2 v))
/-- the program and the free set alone -/
def pg (S : Sn) : Sn := (S.1, S.2.1, S.2.2.1, fun _ => 0, fun _ => 0)
def Cache (S : Sn) (st : St) : Prop := FarOk (pg S) st ∧ ScrOk st ∧ FloOk (pg S) st ∧ PlaOk (pg S) st ∧ ModOk (pg S) st
/-- all that later calls can show -/
def InvS (S : Sn) (kp : Nat → Bool) (SI : Nat → Sn) (st : St) : Prop := SnOk S ∧ ClsRep 1 S st ∧ ModRep S st ∧ Cache S st ∧ st 0 2 = nI ((kp 0).toNat + 2 * (kp 1).toNat) ∧ (∀ j, j < 2 → st 94 j = bi (kp j)) ∧ ∀ j, j < 2 → kp j = true → SnOk (SI j) ∧ ClsRep (8 + 7 * j) (SI j) st ∧ ImgRep j (SI j) st
def Inv (st : St) : Prop := ∃ S kp SI, InvS S kp SI st
def cIds : List Nat := [27, 34, 38, 39, 40, 41, 42, 43, 44, 45, 46, 47, 48, 49, 50, 51, 52, 53, 54, 55, 57, 58, 60, 61, 62, 78, 82, 83]
theorem bool2 {P : Bool → Prop} (h0 : P false) (h1 : P true) (b : Bool) : P b := by cases b; exact h0; exact h1
theorem Cache.kept {S : Sn} {st st' : St} (h : Cache S st) (hk : ∀ k, k ∈ cIds → st' k = st k) : Cache S st' := by
  obtain ⟨h1, h2, h3, h4, h5⟩ := h
  refine ⟨?_, ?_, ?_, ?_, ?_⟩
  · unfold FarOk at *
    rw [hk 27 (by decide)]
    exact h1
  · exact h2.kept (hk 34 (by decide)) (hk 62 (by decide)) (fun p hp => hk _ (by
      simp only [cIds, List.mem_cons, List.not_mem_nil, or_false]
      omega))
  · intro mode set a b c
    have e1 : st' (57 + mode.toNat) = st (57 + mode.toNat) := hk _ (by cases mode <;> decide)
    have e2 : st' (60 + mode.toNat) = st (60 + mode.toNat) := hk _ (by cases mode <;> decide)
    rw [e1, e2]
    exact h3 mode set a b c
  · intro r mode a b
    have e1 : st' (38 + 3 * (2 * (r - 1) + mode.toNat)) = st (38 + 3 * (2 * (r - 1) + mode.toNat)) := hk _ (by rcases (show r = 1 ∨ r = 2 ∨ r = 3 by omega) with rfl | rfl | rfl <;> cases mode <;> decide)
    have e2 : st' (38 + 3 * (2 * (r - 1) + mode.toNat) + 1) = st (38 + 3 * (2 * (r - 1) + mode.toNat) + 1) := hk _ (by rcases (show r = 1 ∨ r = 2 ∨ r = 3 by omega) with rfl | rfl | rfl <;> cases mode <;> decide)
    have e3 : st' (38 + 3 * (2 * (r - 1) + mode.toNat) + 2) = st (38 + 3 * (2 * (r - 1) + mode.toNat) + 2) := hk _ (by rcases (show r = 1 ∨ r = 2 ∨ r = 3 by omega) with rfl | rfl | rfl <;> cases mode <;> decide)
    rw [e1, e2, e3]
    exact h4 r mode a b
  · intro mode
    rw [hk 78 (by decide), hk 82 (by decide), hk 83 (by decide)]
    exact h5 mode
/-- the caches hang on the program and the free set alone -/
theorem Cache.vh {S S' : Sn} {st : St} (h : Cache S st) (h1 : S'.1 = S.1) (h2 : S'.2.1 = S.2.1) (h3 : S'.2.2.1 = S.2.2.1) : Cache S' st := by
  have e : pg S' = pg S := by unfold pg; rw [h1, h2, h3]
  unfold Cache at *
  rw [e]
  exact h
