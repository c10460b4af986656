-- the next row of cells in order
def swF (f : Nat → Nat) (i j k : Nat) : Nat := if k = j then f i else if k = i then f j else f k
def rvF : Nat → Nat → Nat → (Nat → Nat) → (Nat → Nat)
  | 0, _, _, f => f
  | m + 1, lo, hi, f => if hi ≤ lo then f else rvF m (lo + 1) (hi - 1) (swF f lo hi)
def fI (f : Nat → Nat) : Nat → Option Nat
  | 0 => none
  | k + 1 => if f (k + 1) < f k then fI f k else some k
def fJ (f : Nat → Nat) (x : Nat) : Nat → Nat
  | 0 => 0
  | k + 1 => if f (k + 1) < x then fJ f x k else k + 1
def nxF (n : Nat) (f : Nat → Nat) : Option (Nat → Nat) := match fI f (n - 1) with
  | none => none
  | some i => some (rvF 7 (i + 1) (n - 1) (swF f i (fJ f (f i) (n - 1))))
def chk (n : Nat) : List (List Nat) → Bool
  | [] => false
  | l :: t => match nxF n (fun i => l.getD i 0) with
    | none => t.isEmpty
    | some f => (match t with
      | [] => false
      | l' :: _ => l' == (List.range n).map f) && chk n t
theorem chk_1 : chk 1 (perms 1) = true := by decide +kernel
theorem chk_2 : chk 2 (perms 2) = true := by decide +kernel
theorem chk_3 : chk 3 (perms 3) = true := by decide +kernel
theorem chk_4 : chk 4 (perms 4) = true := by decide +kernel
theorem chk_5 : chk 5 (perms 5) = true := by decide +kernel
theorem chk_6 : chk 6 (perms 6) = true := by decide +kernel
theorem chk_7 : chk 7 (perms 7) = true := by decide +kernel
