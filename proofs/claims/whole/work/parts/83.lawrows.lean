section LW
variable {p : Program} {l : Launch} {e : Env} {R : Room} {s : State} {m : MethodId} {args : Array Value} {below : List Frame} {meth : Method} {c : Code} {D : va_G} {cy : Nat → ClassId} {ad : Nat → Nat} {A : Nat → Prop} {L : List Nat} {nL cells slots : Nat} {Q : State → Prop} {cc : ByteArray} {own : String} {pc : Nat} {lv : List (Nat × Value)} {stk : List Value} {st : St}
theorem l_sld (C : Cx p s m args c cc own nL D cy ad A L) {b Lz : Nat} {xs : Nat → Int32} (hX : va_X b Lz xs s s.heap) (hbl : b < s.heap.size) (hbA : ¬ A b) {k : Nat} (hk : k < Lz) (hLz : Lz ≤ 2560) (hd : decode cc pc = .ok (.iaload, 1)) (kk : Gm p l e R s m args below meth c D cy ad A L nL cells slots Q (pc + 1) lv (.int (xs k) :: stk) st) : Gm p l e R s m args below meth c D cy ad A L nL cells slots Q pc lv (.int (nI k) :: .ref b :: stk) st := by
  intro H locs ls hP hS hl
  refine va_sld C.1 C.2.1 hX hbl hbA hS (vp_in_nI hk (by omega)) hd ?_
  rw [nI_clamp (by omega)]
  exact kk H locs ls hP hS hl
theorem l_len (C : Cx p s m args c cc own nL D cy ad A L) {b Lz : Nat} {xs : Nat → Int32} (hX : va_X b Lz xs s s.heap) (hbl : b < s.heap.size) (hbA : ¬ A b) (hd : decode cc pc = .ok (.arraylength, 1)) (kk : Gm p l e R s m args below meth c D cy ad A L nL cells slots Q (pc + 1) lv (.int (nI Lz) :: stk) st) : Gm p l e R s m args below meth c D cy ad A L nL cells slots Q pc lv (.ref b :: stk) st := fun H locs ls hP hS hl => va_slen C.1 C.2.1 hX hbl hbA hS hd (kk H locs ls hP hS hl)
theorem l_ld (C : Cx p s m args c cc own nL D cy ad A L) {b Lz : Nat} {xs : Nat → Int32} (hX : va_X b Lz xs s s.heap) (hbl : b < s.heap.size) (hbA : ¬ A b) {k n : Nat} {v : Int32} {z : Int} (hk : k + n < Lz) (hLz : Lz ≤ 2560) (hv : v = nI n) (hz : Int32.ofInt z = v) (q0 q3 : Nat) (hq0 : lv[q0]? = some (0, .ref b)) (hq3 : lv[q3]? = some (3, .int (nI k))) (d0 : decode cc pc = .ok (.aload_n 0, 1)) (d1 : decode cc (pc + 1) = .ok (.iload_n 3, 1)) (d2 : decode cc (pc + 1 + 1) = .ok (.iconst z, 1)) (d3 : decode cc (pc + 1 + 1 + 1) = .ok (.iadd, 1)) (d4 : decode cc (pc + 1 + 1 + 1 + 1) = .ok (.iaload, 1)) (kk : Gm p l e R s m args below meth c D cy ad A L nL cells slots Q (pc + 5) lv (.int (xs (k + n)) :: stk) st) : Gm p l e R s m args below meth c D cy ad A L nL cells slots Q pc lv stk st := by
  refine g_aload_n C d0 rfl q0 hq0 ?_
  refine g_iload_n C d1 rfl q3 hq3 ?_
  refine g_iconst C d2 hz ?_
  refine g_iadd C d3 ?_
  rw [hv, nI_add]
  exact l_sld C hX hbl hbA hk hLz d4 kk
theorem l_eqT (C : Cx p s m args c cc own nL D cy ad A L) {x : Int32} {off : Int} {tgt : Nat} (hd : decode cc pc = .ok (.if_icmp .eq off, 3)) (ht : (pc : Int) + off = (tgt : Int)) (kk : Gm p l e R s m args below meth c D cy ad A L nL cells slots Q tgt lv stk st) : Gm p l e R s m args below meth c D cy ad A L nL cells slots Q pc lv (.int x :: .int x :: stk) st := fun H locs ls hP hS hl => lv_icmp_eq C.1 C.2.1 hd ht (fun _ => kk H locs ls hP hS hl) (fun h => absurd rfl h)
theorem l_cmp_self (x : Int64) : lg_cmp x x = 0 := by
  unfold lg_cmp
  simp
theorem l_lcT (C : Cx p s m args c cc own nL D cy ad A L) {x : Int64} {off : Int} {tgt : Nat} (hd : decode cc pc = .ok (.lcmp, 1)) (hd2 : decode cc (pc + 1) = .ok (.ifCond .eq off, 3)) (ht : ((pc + 1 : Nat) : Int) + off = (tgt : Int)) (kk : Gm p l e R s m args below meth c D cy ad A L nL cells slots Q tgt lv stk st) : Gm p l e R s m args below meth c D cy ad A L nL cells slots Q pc lv (.long x :: .long x :: stk) st := fun H locs ls hP hS hl => W.lcmp C.1 C.2.1 hd (lv_if_eq C.1 C.2.1 hd2 ht (fun _ => kk H locs ls hP hS hl) (fun h => absurd (l_cmp_self x) h))
theorem l_gt (C : Cx p s m args c cc own nL D cy ad A L) {x y : Int32} {off : Int} {tgt : Nat} (hd : decode cc pc = .ok (.if_icmp .gt off, 3)) (ht : (pc : Int) + off = (tgt : Int)) (kt : y < x → Gm p l e R s m args below meth c D cy ad A L nL cells slots Q tgt lv stk st) (kf : ¬ y < x → Gm p l e R s m args below meth c D cy ad A L nL cells slots Q (pc + 3) lv stk st) : Gm p l e R s m args below meth c D cy ad A L nL cells slots Q pc lv (.int y :: .int x :: stk) st := fun H locs ls hP hS hl => lv_icmp_gt C.1 C.2.1 hd ht (fun h => kt h H locs ls hP hS hl) (fun h => kf h H locs ls hP hS hl)
theorem l_iinc (C : Cx p s m args c cc own nL D cy ad A L) {i : Nat} {n : Int} {x v : Int32} {lv' : List (Nat × Value)} (hd : decode cc pc = .ok (.iinc i n, 3)) (q : Nat) (hq : lv[q]? = some (i, .int x)) (hv : x + Int32.ofInt n = v) (hn : i < nL) (hl' : (i, Value.int v) :: lv.filter (fun q => !(q.1 == i) && !(q.1 + 1 == i && q.2.category == 2)) = lv') (kk : Gm p l e R s m args below meth c D cy ad A L nL cells slots Q (pc + 3) lv' stk st) : Gm p l e R s m args below meth c D cy ad A L nL cells slots Q pc lv stk st := fun H locs ls hP hS hl => lv_iinc C.1 C.2.1 hd hl hq hv hn hl' (fun ls2 h2 => kk H locs ls2 hP hS h2)
end LW
theorem l_ret {p : Program} {l : Launch} {e : Env} {s : State} {m : MethodId} {below : List Frame} {meth : Method} {c : Code} {D : va_G} {cy : Nat → ClassId} {ad : Nat → Nat} {L : List Nat} {nL cells slots b : Nat} {pc : Nat} {lv : List (Nat × Value)} {st : St} (C : Cx p s m #[Value.ref b] c cL_law RL nL D cy ad (fun q => s.heap.size ≤ q) L) (hr : meth.sig.returnType = ret) (hlk : meth.locks = false) (hcells : cells ≤ 600000) (hslots : slots ≤ 7302250) (hd : decode cL_law pc = .ok (.ireturn, 1)) : Gm p l e room_1 s m #[Value.ref b] below meth c D cy ad (fun q => s.heap.size ≤ q) L nL cells slots (lw_Z below #[Value.ref b] s) pc lv [.int 1] st := by
  intro H locs ls hP hS hl
  refine va_forget hS.2.2 ?_
  refine W.widen (k := 600000) (n := 7302250) hcells hslots ?_
  exact lw_ret C.1 C.2.1 hr hlk hd
def LAl : List Nat := LXl ++ [70, 71, 72, 73, 74, 75, 76, 77, 78, 79, 80, 81, 82, 83, 84, 85, 86, 87, 88, 89, 90, 91, 92, 93, 94]
theorem prF_all : ∀ k, k < 95 → k ∈ LAl := by decide +kernel
theorem prF_LAl : ∀ k, prF k = true → k ∈ LAl := fun k h => prF_all k (of_decide_eq_true h)
