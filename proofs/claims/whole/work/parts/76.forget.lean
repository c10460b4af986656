theorem forgetX {st : St} {N : Nat} (hN : 129 ≤ N) : ∃ st1 : St, F_X3_forget N st = some st1 ∧ (∀ q, q < 6 → st1 (38 + 3 * q) 0 = 0) ∧ ∀ k, k ∉ [38, 41, 44, 47, 50, 53, 57, 58, 60, 61] → st1 k = st k := by
  obtain ⟨sa, a1, a2, a3⟩ := forg_a (fun s => lt 0 fun v => lp_X3_forget_29 N N v s) N 0 st (by omega) (by omega) (fun q hq => by omega)
  obtain ⟨sb, b1, b2, b3⟩ := forg_b hN sa
  refine ⟨sb, ?_, ?_, ?_⟩
  · unfold F_X3_forget
    rw [nI0] at a1
    rw [lt_eq, a1, lt_eq]
    exact b1
  · intro q hq
    rw [b3 _ (by omega) (by omega) (by omega) (by omega)]
    exact a2 q hq
  · intro k hk
    simp only [List.mem_cons, List.not_mem_nil, or_false, not_or] at hk
    rw [b3 k (by omega) (by omega) (by omega) (by omega)]
    funext j
    exact a3 k j (Or.inl (fun q hq => by omega))
theorem r_perm {p : Program} {l : Launch} {e : Env} {R : Room} {s : State} {m : MethodId} {args : Array Value} {below : List Frame} {meth : Method} {c : Code} {D : va_G} {A : Nat → Prop} {nL cells slots : Nat} {Q : State → Prop} {pc : Nat} {lv : List (Nat × Value)} {stk : List Value} {ws ws' : va_W} (is : List Nat) (hn : va_nd is = true) (h1 : is.filterMap (fun i => ws[i]?) = ws') (h2 : is.map (fun i => ws[i]?) = ws'.map some) (kk : Gr p l e R s m args below meth c D A nL Q cells slots pc lv stk ws') : Gr p l e R s m args below meth c D A nL Q cells slots pc lv stk ws := fun H locs ls hP hD hS hl => kk H locs ls (hP.sub is h1) (hD.sub is hn h2) hS hl
