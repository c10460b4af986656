-- worlds that still grow: rows for the constructors
def KX (cy : Nat → ClassId) (U : State) : Prop := va_AO "StepRegisters$State" U ∧ va_AO "StepRegisters$Plan" U ∧ (∃ kA : Class, U.vm.classes[cy 13]? = some kA ∧ kA.kind = .array (cy 9) (.array .int)) ∧ va_Nw (.methodLinkNest RX7 22 yX4_init RX7) U ∧ va_Nw (.methodLinkNest RX7 29 yX6_init RX7) U ∧ va_Nw (.methodLinkNest RX3 52 yX2_init RX7) U ∧ va_Nw (.methodLinkNest RX7 49 yX0_init RX7) U
def KK (D : va_G) (cy : Nat → ClassId) (U : State) : Prop := va_K D classes (tys cy) U ∧ KX cy U
theorem KK.warm {D : va_G} {cy : Nat → ClassId} {s U : State} (hW : s.WarmedH U.vm) (h : KK D cy s) : KK D cy U := by
  obtain ⟨h0, h1, h2, ⟨kA, h3, h4⟩, h5, h6, h7, h8⟩ := h
  obtain ⟨k', hk', he⟩ := hW.alike.2.2 _ _ h3
  exact ⟨va_K.moved hW.alike h0, h1.moved hW.alike, h2.moved hW.alike, ⟨k', hk', by rw [he]; exact h4⟩, va_Nw.warmM hW h5, va_Nw.warmM hW h6, va_Nw.warmM hW h7, va_Nw.warmM hW h8⟩
theorem KK.call {D : va_G} {cy : Nat → ClassId} {U : State} (g : JFrame) (mk : MethodId) (a : Array Value) (h : KK D cy U) : KK D cy (U.calling g mk a) := by
  obtain ⟨h0, h1, h2, h3, h5, h6, h7, h8⟩ := h
  exact ⟨va_K.moved (u := U) (U := U.calling g mk a) (Vm.Alike.refl U.vm) h0, va_AO.moved (u := U) (U := U.calling g mk a) (Vm.Alike.refl U.vm) h1, va_AO.moved (u := U) (U := U.calling g mk a) (Vm.Alike.refl U.vm) h2, h3, va_Nw.same rfl (rfl : U.vm = (U.calling g mk a).vm) h5, va_Nw.same rfl (rfl : U.vm = (U.calling g mk a).vm) h6, va_Nw.same rfl (rfl : U.vm = (U.calling g mk a).vm) h7, va_Nw.same rfl (rfl : U.vm = (U.calling g mk a).vm) h8⟩
/-- what a constructor stands on -/
def Bx (p : Program) (s : State) (m : MethodId) (args : Array Value) (meth : Method) (c : Code) (cc : ByteArray) (own : String) (nL : Nat) (D : va_G) (cy : Nat → ClassId) (A : Nat → Prop) : Prop := p.tables.exec = Jvm.exec ∧ c.code = cc ∧ c.maxLocals = nL ∧ s.vm.findClass own = some m.cls ∧ (∀ w ∈ gtb, w.before args s = true) ∧ KK D cy s ∧ (∀ q, s.heap.size ≤ q → A q)
def Gr (p : Program) (l : Launch) (e : Env) (R : Room) (s : State) (m : MethodId) (args : Array Value) (below : List Frame) (meth : Method) (c : Code) (D : va_G) (A : Nat → Prop) (nL : Nat) (Q : State → Prop) (cells slots pc : Nat) (lv : List (Nat × Value)) (stk : List Value) (ws : va_W) : Prop :=
  ∀ (H : Heap) (locs : List Loc) (ls : Array Slot), va_P D classes ws H → va_D A ws → va_S A s.heap H locs → lv_has ls nL lv → W p l e R s m args below meth c H locs cells slots Q (F0 m pc ls stk)
section RR
variable {p : Program} {l : Launch} {e : Env} {R : Room} {s : State} {m : MethodId} {args : Array Value} {below : List Frame} {meth : Method} {c : Code} {D : va_G} {cy : Nat → ClassId} {A : Nat → Prop} {nL cells slots : Nat} {Q : State → Prop} {cc : ByteArray} {own : String} {pc : Nat} {lv : List (Nat × Value)} {stk : List Value} {ws : va_W}
theorem r_aload_n (B : Bx p s m args meth c cc own nL D cy A) {k : Fin 4} {i x : Nat} (hd : decode cc pc = .ok (.aload_n k, 1)) (hi : (k : Nat) = i) (q : Nat) (hq : lv[q]? = some (i, .ref x)) (kk : Gr p l e R s m args below meth c D A nL Q cells slots (pc + 1) lv (.ref x :: stk) ws) : Gr p l e R s m args below meth c D A nL Q cells slots pc lv stk ws := fun H locs ls hP hD hS hl => lv_aload_n B.1 B.2.1 hd hi (lv_at hl q hq) (kk H locs ls hP hD hS hl)
theorem r_iload_n (B : Bx p s m args meth c cc own nL D cy A) {k : Fin 4} {i : Nat} {x : Int32} (hd : decode cc pc = .ok (.iload_n k, 1)) (hi : (k : Nat) = i) (q : Nat) (hq : lv[q]? = some (i, .int x)) (kk : Gr p l e R s m args below meth c D A nL Q cells slots (pc + 1) lv (.int x :: stk) ws) : Gr p l e R s m args below meth c D A nL Q cells slots pc lv stk ws := fun H locs ls hP hD hS hl => lv_iload_n B.1 B.2.1 hd hi (lv_at hl q hq) (kk H locs ls hP hD hS hl)
theorem r_dup (B : Bx p s m args meth c cc own nL D cy A) {v : Value} (hd : decode cc pc = .ok (.dup, 1)) (hv : v.category = 1) (kk : Gr p l e R s m args below meth c D A nL Q cells slots (pc + 1) lv (v :: v :: stk) ws) : Gr p l e R s m args below meth c D A nL Q cells slots pc lv (v :: stk) ws := fun H locs ls hP hD hS hl => lv_dup B.1 B.2.1 hd hv (kk H locs ls hP hD hS hl)
theorem r_iconst (B : Bx p s m args meth c cc own nL D cy A) {n : Int} {v : Int32} (hd : decode cc pc = .ok (.iconst n, 1)) (hv : Int32.ofInt n = v) (kk : Gr p l e R s m args below meth c D A nL Q cells slots (pc + 1) lv (.int v :: stk) ws) : Gr p l e R s m args below meth c D A nL Q cells slots pc lv stk ws := fun H locs ls hP hD hS hl => lv_iconst B.1 B.2.1 hd hv (kk H locs ls hP hD hS hl)
theorem r_bipush (B : Bx p s m args meth c cc own nL D cy A) {n : Int} {v : Int32} (hd : decode cc pc = .ok (.bipush n, 2)) (hv : (Int8.ofInt n).toInt32 = v) (kk : Gr p l e R s m args below meth c D A nL Q cells slots (pc + 2) lv (.int v :: stk) ws) : Gr p l e R s m args below meth c D A nL Q cells slots pc lv stk ws := fun H locs ls hP hD hS hl => lv_bipush B.1 B.2.1 hd hv (kk H locs ls hP hD hS hl)
theorem r_sipush (B : Bx p s m args meth c cc own nL D cy A) {n : Int} {v : Int32} (hd : decode cc pc = .ok (.sipush n, 3)) (hv : (Int16.ofInt n).toInt32 = v) (kk : Gr p l e R s m args below meth c D A nL Q cells slots (pc + 3) lv (.int v :: stk) ws) : Gr p l e R s m args below meth c D A nL Q cells slots pc lv stk ws := fun H locs ls hP hD hS hl => lv_sipush B.1 B.2.1 hd hv (kk H locs ls hP hD hS hl)
theorem r_istore_n (B : Bx p s m args meth c cc own nL D cy A) {k : Fin 4} {i : Nat} {x : Int32} {lv' : List (Nat × Value)} (hd : decode cc pc = .ok (.istore_n k, 1)) (hi : (k : Nat) = i) (hn : i < nL) (hl' : (i, Value.int x) :: lv.filter (fun q => !(q.1 == i) && !(q.1 + 1 == i && q.2.category == 2)) = lv') (kk : Gr p l e R s m args below meth c D A nL Q cells slots (pc + 1) lv' stk ws) : Gr p l e R s m args below meth c D A nL Q cells slots pc lv (.int x :: stk) ws := fun H locs ls hP hD hS hl => lv_istore_n B.1 B.2.1 hd hi hl hn hl' (fun ls2 h2 => kk H locs ls2 hP hD hS h2)
theorem r_astore_n (B : Bx p s m args meth c cc own nL D cy A) {k : Fin 4} {i x : Nat} {lv' : List (Nat × Value)} (hd : decode cc pc = .ok (.astore_n k, 1)) (hi : (k : Nat) = i) (hn : i < nL) (hl' : (i, Value.ref x) :: lv.filter (fun q => !(q.1 == i) && !(q.1 + 1 == i && q.2.category == 2)) = lv') (kk : Gr p l e R s m args below meth c D A nL Q cells slots (pc + 1) lv' stk ws) : Gr p l e R s m args below meth c D A nL Q cells slots pc lv (.ref x :: stk) ws := fun H locs ls hP hD hS hl => lv_astore_n B.1 B.2.1 hd hi hl hn hl' (fun ls2 h2 => kk H locs ls2 hP hD hS h2)
theorem r_iinc (B : Bx p s m args meth c cc own nL D cy A) {i : Nat} {n : Int} {x v : Int32} {lv' : List (Nat × Value)} (hd : decode cc pc = .ok (.iinc i n, 3)) (q : Nat) (hq : lv[q]? = some (i, .int x)) (hv : x + Int32.ofInt n = v) (hn : i < nL) (hl' : (i, Value.int v) :: lv.filter (fun q => !(q.1 == i) && !(q.1 + 1 == i && q.2.category == 2)) = lv') (kk : Gr p l e R s m args below meth c D A nL Q cells slots (pc + 3) lv' stk ws) : Gr p l e R s m args below meth c D A nL Q cells slots pc lv stk ws := fun H locs ls hP hD hS hl => lv_iinc B.1 B.2.1 hd hl hq hv hn hl' (fun ls2 h2 => kk H locs ls2 hP hD hS h2)
theorem r_goto (B : Bx p s m args meth c cc own nL D cy A) {off : Int} {tgt : Nat} (hd : decode cc pc = .ok (.goto off, 3)) (ht : (pc : Int) + off = (tgt : Int)) (kk : Gr p l e R s m args below meth c D A nL Q cells slots tgt lv stk ws) : Gr p l e R s m args below meth c D A nL Q cells slots pc lv stk ws := fun H locs ls hP hD hS hl => lv_goto B.1 B.2.1 hd ht (kk H locs ls hP hD hS hl)
theorem r_geT (B : Bx p s m args meth c cc own nL D cy A) {x y : Int32} {off : Int} {tgt : Nat} (hd : decode cc pc = .ok (.if_icmp .ge off, 3)) (ht : (pc : Int) + off = (tgt : Int)) (h : y ≤ x) (kk : Gr p l e R s m args below meth c D A nL Q cells slots tgt lv stk ws) : Gr p l e R s m args below meth c D A nL Q cells slots pc lv (.int y :: .int x :: stk) ws := fun H locs ls hP hD hS hl => lv_icmp_ge B.1 B.2.1 hd ht (fun _ => kk H locs ls hP hD hS hl) (fun h2 => absurd h h2)
theorem r_geF (B : Bx p s m args meth c cc own nL D cy A) {x y : Int32} {off : Int} {tgt : Nat} (hd : decode cc pc = .ok (.if_icmp .ge off, 3)) (ht : (pc : Int) + off = (tgt : Int)) (h : ¬ y ≤ x) (kk : Gr p l e R s m args below meth c D A nL Q cells slots (pc + 3) lv stk ws) : Gr p l e R s m args below meth c D A nL Q cells slots pc lv (.int y :: .int x :: stk) ws := fun H locs ls hP hD hS hl => lv_icmp_ge B.1 B.2.1 hd ht (fun h2 => absurd h2 h) (fun _ => kk H locs ls hP hD hS hl)
theorem r_get (B : Bx p s m args meth c cc own nL D cy A) {index ci a : Nat} {Cn : String} {T : u_T} {N : Nat} (ok : clsOk ci (Cn, T, N)) (hd : decode cc pc = .ok (.getfield index, 3)) (q0 : Nat) {fs : List Value} (he : ws[q0]? = some (a, .inr (ci, fs))) (k : Nat) (hk : k < N) (hlink : Cond.fieldLink own index (T k).1 (T k).2.1 (T k).2.2.1 ∈ gtb) {v : Value} (hv : fs[k]? = some v) (kk : Gr p l e R s m args below meth c D A nL Q cells slots (pc + 3) lv (v :: stk) ws) : Gr p l e R s m args below meth c D A nL Q cells slots pc lv (.ref a :: stk) ws := fun H locs ls hP hD hS hl => va_get B.1 B.2.1 B.2.2.2.2.1 ok.2.2.2.1 B.2.2.2.1 B.2.2.2.2.2.1.1 hP q0 he ok.1 k hk (B.2.2.2.2.1 _ hlink) (fun _ h => h) hv hd (kk H locs ls hP hD hS hl)
theorem r_put (B : Bx p s m args meth c cc own nL D cy A) {index ci a : Nat} {Cn : String} {T : u_T} {N : Nat} (ok : clsOk ci (Cn, T, N)) (hd : decode cc pc = .ok (.putfield index, 3)) (q0 : Nat) {fs : List Value} (he : ws[q0]? = some (a, .inr (ci, fs))) (k : Nat) (hk : k < N) (hlink : Cond.fieldLink own index (T k).1 (T k).2.1 (T k).2.2.1 ∈ gtb) (hfin : (T k).2.2.2 = false) {ty : FieldType} {v : Value} (hty : parseFieldDescriptor (T k).2.2.1 = some ty) (hnr : narrow ty v = v) (hfit : fits ty v = true) (hlen : k < fs.length) {ws' : va_W} (hw : ws.set q0 (a, .inr (ci, fs.set k v)) = ws') (kk : Gr p l e R s m args below meth c D A nL Q cells slots (pc + 3) lv stk ws') : Gr p l e R s m args below meth c D A nL Q cells slots pc lv (v :: .ref a :: stk) ws := by
  intro H locs ls hP hD hS hl
  obtain ⟨hc, h9, hn, hin, ty0, hty0, hnm⟩ := ok
  subst hw
  exact va_put B.1 B.2.1 B.2.2.2.2.1 hin ty0 hty0 hnm B.2.2.2.1 B.2.2.2.2.2.1.1 hP hD hS q0 he hc k hk (B.2.2.2.2.1 _ hlink) (fun _ h => h) hfin hty hnr hfit hlen hd (fun H1 locs1 hP1 hD1 hS1 => kk H1 locs1 ls hP1 hD1 hS1 hl)
theorem r_putF (B : Bx p s m args meth c cc own nL D cy A) (hin2 : meth.name = "<init>") {index ci a : Nat} {Cn : String} {T : u_T} {N : Nat} (ok : clsOk ci (Cn, T, N)) (hd : decode cc pc = .ok (.putfield index, 3)) (q0 : Nat) {fs : List Value} (he : ws[q0]? = some (a, .inr (ci, fs))) (k : Nat) (hk : k < N) (hlink : Cond.fieldLink own index (T k).1 (T k).2.1 (T k).2.2.1 ∈ gtb) (hfin : (T k).2.2.2 = true) (hdecl : (T k).1 = own) {ty : FieldType} {v : Value} (hty : parseFieldDescriptor (T k).2.2.1 = some ty) (hnr : narrow ty v = v) (hfit : fits ty v = true) (hlen : k < fs.length) {ws' : va_W} (hw : ws.set q0 (a, .inr (ci, fs.set k v)) = ws') (kk : Gr p l e R s m args below meth c D A nL Q cells slots (pc + 3) lv stk ws') : Gr p l e R s m args below meth c D A nL Q cells slots pc lv (v :: .ref a :: stk) ws := by
  intro H locs ls hP hD hS hl
  obtain ⟨hc, h9, hn, hin, ty0, hty0, hnm⟩ := ok
  subst hw
  exact va_putF B.1 B.2.1 B.2.2.2.2.1 hin ty0 hty0 hnm B.2.2.2.1 B.2.2.2.2.2.1.1 hP hD hS q0 he hc k hk (B.2.2.2.2.1 _ hlink) (fun _ h => h) hfin hin2 hdecl hty hnr hfit hlen hd (fun H1 locs1 hP1 hD1 hS1 => kk H1 locs1 ls hP1 hD1 hS1 hl)
theorem r_newi (B : Bx p s m args meth c cc own nL D cy A) (harr : Cond.arrayClass .int ∈ gtb) {n : Int32} {N' : Nat} (hn : ¬ n < 0) (hN : n.toNatClampNeg = N') (hbytes : N' * 4 ≤ 536870912) (hcells : cells + 1 ≤ R.cells) (hslots : slots + N' ≤ R.slots) (hd : decode cc pc = .ok (.newarray .int, 2)) (kk : ∀ q : Nat, Gr p l e R s m args below meth c D A nL Q (cells + 1) (slots + N') (pc + 2) lv (.ref q :: stk) (ws ++ [(q, .inl (cy 9, N', .inl (fun _ => 0)))])) : Gr p l e R s m args below meth c D A nL Q cells slots pc lv (.int n :: stk) ws := by
  intro H locs ls hP hD hS hl
  have hK := B.2.2.2.2.2.1.1
  refine va_newa (atype := .int) (ty := .int) (a0 := (N', .inl (fun _ => 0))) B.1 B.2.1 (B.2.2.2.2.1 _ harr) rfl hK hP hD hS B.2.2.2.2.2.2 (fun _ => rfl) hn hN hbytes hcells hslots hd (fun q cA H1 hK1 hP1 hD1 hS1 => ?_)
  have e1 : s.vm.findClass ("[" ++ (FieldType.int).toString) = some cA := (hK1.2 5 _ rfl).2
  have e2 : s.vm.findClass ("[" ++ (FieldType.int).toString) = some (cy 9) := (hK.2 0 _ rfl).2
  cases Option.some.inj (e1.symm.trans e2)
  exact kk q H1 locs ls hP1 hD1 hS1 hl
theorem r_newz (B : Bx p s m args meth c cc own nL D cy A) (harr : Cond.arrayClass .boolean ∈ gtb) {n : Int32} {N' : Nat} (hn : ¬ n < 0) (hN : n.toNatClampNeg = N') (hbytes : N' * 1 ≤ 536870912) (hcells : cells + 1 ≤ R.cells) (hslots : slots + N' ≤ R.slots) (hd : decode cc pc = .ok (.newarray .boolean, 2)) (kk : ∀ q : Nat, Gr p l e R s m args below meth c D A nL Q (cells + 1) (slots + N') (pc + 2) lv (.ref q :: stk) (ws ++ [(q, .inl (cy 10, N', .inl (fun _ => 0)))])) : Gr p l e R s m args below meth c D A nL Q cells slots pc lv (.int n :: stk) ws := by
  intro H locs ls hP hD hS hl
  have hK := B.2.2.2.2.2.1.1
  refine va_newa (atype := .boolean) (ty := .boolean) (a0 := (N', .inl (fun _ => 0))) B.1 B.2.1 (B.2.2.2.2.1 _ harr) rfl hK hP hD hS B.2.2.2.2.2.2 (fun _ => rfl) hn hN hbytes hcells hslots hd (fun q cA H1 hK1 hP1 hD1 hS1 => ?_)
  have e1 : s.vm.findClass ("[" ++ (FieldType.boolean).toString) = some cA := (hK1.2 5 _ rfl).2
  have e2 : s.vm.findClass ("[" ++ (FieldType.boolean).toString) = some (cy 10) := (hK.2 1 _ rfl).2
  cases Option.some.inj (e1.symm.trans e2)
  exact kk q H1 locs ls hP1 hD1 hS1 hl
theorem r_newqS (B : Bx p s m args meth c cc own nL D cy A) {index : Nat} (hclink : Cond.classLink own index "StepRegisters$State" ∈ gtb) {n : Int32} {N' : Nat} (hn : ¬ n < 0) (hN : n.toNatClampNeg = N') (hbytes : N' * 4 ≤ 536870912) (hcells : cells + 1 ≤ R.cells) (hslots : slots + N' ≤ R.slots) (hd : decode cc pc = .ok (.anewarray index, 3)) (kk : ∀ q : Nat, Gr p l e R s m args below meth c D A nL Q (cells + 1) (slots + N') (pc + 3) lv (.ref q :: stk) (ws ++ [(q, .inl (cy 12, N', .inr (.inr (.inr (.inr (fun _ => none))))))])) : Gr p l e R s m args below meth c D A nL Q cells slots pc lv (.int n :: stk) ws := by
  intro H locs ls hP hD hS hl
  have hK := B.2.2.2.2.2.1.1
  refine va_newq B.1 B.2.1 B.2.2.2.1 (B.2.2.2.2.1 _ hclink) B.2.2.2.2.2.1.2.1 hK hP hD hS B.2.2.2.2.2.2 hn hN hbytes hcells hslots hd (fun q cA H1 hK1 hP1 hD1 hS1 => ?_)
  obtain ⟨-, -, -, -, -, e1⟩ := (hK1.2 5 _ rfl).2
  obtain ⟨-, -, -, -, -, e2⟩ := (hK.2 3 _ rfl).2
  cases Option.some.inj (e1.symm.trans e2)
  exact kk q H1 locs ls hP1 hD1 hS1 hl
theorem r_newqP (B : Bx p s m args meth c cc own nL D cy A) {index : Nat} (hclink : Cond.classLink own index "StepRegisters$Plan" ∈ gtb) {n : Int32} {N' : Nat} (hn : ¬ n < 0) (hN : n.toNatClampNeg = N') (hbytes : N' * 4 ≤ 536870912) (hcells : cells + 1 ≤ R.cells) (hslots : slots + N' ≤ R.slots) (hd : decode cc pc = .ok (.anewarray index, 3)) (kk : ∀ q : Nat, Gr p l e R s m args below meth c D A nL Q (cells + 1) (slots + N') (pc + 3) lv (.ref q :: stk) (ws ++ [(q, .inl (cy 11, N', .inr (.inr (.inr (.inr (fun _ => none))))))])) : Gr p l e R s m args below meth c D A nL Q cells slots pc lv (.int n :: stk) ws := by
  intro H locs ls hP hD hS hl
  have hK := B.2.2.2.2.2.1.1
  refine va_newq B.1 B.2.1 B.2.2.2.1 (B.2.2.2.2.1 _ hclink) B.2.2.2.2.2.1.2.2.1 hK hP hD hS B.2.2.2.2.2.2 hn hN hbytes hcells hslots hd (fun q cA H1 hK1 hP1 hD1 hS1 => ?_)
  obtain ⟨-, -, -, -, -, e1⟩ := (hK1.2 5 _ rfl).2
  obtain ⟨-, -, -, -, -, e2⟩ := (hK.2 2 _ rfl).2
  cases Option.some.inj (e1.symm.trans e2)
  exact kk q H1 locs ls hP1 hD1 hS1 hl
theorem maI_eq (cI : ClassId) (N : Nat) : maI cI N = vp_cell cI (N, .inl (fun _ => 0)) := arrV_new cI N (.int 0)
theorem maO2_eq (cA : ClassId) (h : Nat) : maO2 cA h = vp_cell cA (2, .inr (.inr (.inr (.inr (va_up (va_up (fun _ => none) 0 (some (h + 1))) 1 (some (h + 2))))))) := by
  unfold maO2 maO1 maO
  rw [arrV_new, arrV_store, arrV_store, vp_cell_q]
  congr 1
  funext j
  unfold updV va_up
  by_cases h1 : j = 1
  · simp [h1, va_rf]
  · by_cases h0 : j = 0
    · simp [h0, va_rf]
    · simp [h0, h1, va_rf]
theorem r_newm (B : Bx p s m args meth c cc own nL D cy A) {index : Nat} (hclink : Cond.classLink own index "[[I" ∈ gtb) {n : Int32} {N' : Nat} (hn : ¬ n < 0) (hN : n.toNatClampNeg = N') (hbytes : N' * 4 ≤ 536870912) (hcells : cells + 3 ≤ R.cells) (hslots : slots + (2 + N' + N') ≤ R.slots) (hd : decode cc pc = .ok (.multianewarray index 2, 4)) (kk : ∀ q0 q1 q2 : Nat, Gr p l e R s m args below meth c D A nL Q (cells + 3) (slots + (2 + N' + N')) (pc + 4) lv (.ref q0 :: stk) (ws ++ [(q0, .inl (cy 13, 2, .inr (.inr (.inr (.inr (va_up (va_up (fun _ => none) 0 (some q1)) 1 (some q2))))))), (q1, .inl (cy 9, N', .inl (fun _ => 0))), (q2, .inl (cy 9, N', .inl (fun _ => 0)))])) : Gr p l e R s m args below meth c D A nL Q cells slots pc lv (.int n :: .int 2 :: stk) ws := by
  intro H locs ls hP hD hS hl
  have hK := B.2.2.2.2.2.1.1
  obtain ⟨kA, hkA, hkind⟩ := B.2.2.2.2.2.1.2.2.2.1
  have f13 : s.vm.findClass ("[" ++ (FieldType.array .int).toString) = some (cy 13) := (hK.2 4 _ rfl).2
  obtain ⟨-, kI, hkI, cp, hkindI⟩ := (hK.2 0 _ rfl).1 0 (fun _ => .null)
  refine ma_row (cA := cy 13) (cI := cy 9) B.1 B.2.1 B.2.2.2.1 (B.2.2.2.2.1 _ hclink) f13 hkA hkind hkI hkindI rfl hd rfl hn hN hbytes hcells hslots (fun H1 z1 c0 c1 c2 o1 => ?_)
  have hk : ∀ (k : Nat) (x : Nat × va_E), ws[k]? = some x → H1[x.1]? = H[x.1]? := fun k x hx => o1 x.1 ((hP k x hx).lt)
  have hAz : ∀ j, A (H.size + j) := fun j => B.2.2.2.2.2.2 _ (Nat.le_trans hS.1 (Nat.le_add_right _ _))
  refine kk H.size (H.size + 1) (H.size + 2) H1 _ ls ((hP.kept hk).app ?_) (va_D.app hD ?_ ?_) ⟨by have := hS.1; omega, fun q h1 h2 => (o1 q (Nat.lt_of_lt_of_le h1 hS.1)).trans (hS.2.1 q h1 h2), ?_⟩ hl
  · intro k x hx
    rcases k with _ | _ | _ | k
    · cases hx
      show H1[H.size]? = some (vp_cell _ _)
      rw [c0, maO2_eq]
    · cases hx
      show H1[H.size + 1]? = some (vp_cell _ _)
      rw [c1, maI_eq]
    · cases hx
      show H1[H.size + 2]? = some (vp_cell _ _)
      rw [c2, maI_eq]
    · simp at hx
  · refine ⟨?_, ?_⟩
    · intro i j x y hx hy hxy
      rcases i with _ | _ | _ | i <;> rcases j with _ | _ | _ | j <;> simp at hx hy <;> subst hx <;> subst hy <;> simp at hxy <;> first | rfl | omega
    · intro k x hx
      rcases k with _ | _ | _ | k
      · cases hx; exact hAz 0
      · cases hx; exact hAz 1
      · cases hx; exact hAz 2
      · simp at hx
  · intro i j x y hx hy hxy
    have h1 := (hP i x hx).lt
    rcases j with _ | _ | _ | j <;> simp at hy <;> subst hy <;> simp only at hxy <;> omega
  · intro q hq
    rcases List.mem_append.mp hq with hq | hq
    · rcases List.mem_append.mp hq with hq | hq
      · exact hS.2.2 q hq
      · cases List.mem_singleton.mp hq; exact hAz 0
    · cases List.mem_singleton.mp hq; exact hAz 0
theorem r_new (B : Bx p s m args meth c cc own nL D cy A) {ci index : Nat} {Cn : String} {T : u_T} {N : Nat} (ok : clsOk ci (Cn, T, N)) (ty : Nat → FieldType) (hty : ∀ k, k < N → parseFieldDescriptor (T k).2.2.1 = some (ty k)) (hcl : Cond.classLink own index Cn ∈ gtb) (hinst : Cond.instantiable Cn N ∈ gtb) (hini : Cond.initialized Cn ∈ gtb) (fs : List Value) (hfs : ∀ j, j < N → defaultValue (ty j) = vp_V fs j) (hcells : cells + 1 ≤ R.cells) (hslots : slots + N ≤ R.slots) (hd : decode cc pc = .ok (.new index, 3)) (kk : ∀ q : Nat, Gr p l e R s m args below meth c D A nL Q (cells + 1) (slots + N) (pc + 3) lv (.ref q :: stk) (ws ++ [(q, .inr (ci, fs))])) : Gr p l e R s m args below meth c D A nL Q cells slots pc lv stk ws := by
  intro H locs ls hP hD hS hl
  exact va_new B.1 B.2.1 B.2.2.2.2.1 ok.2.2.2.1 ty hty B.2.2.2.1 (B.2.2.2.2.1 _ hcl) (B.2.2.2.2.1 _ hinst) (B.2.2.2.2.1 _ hini) B.2.2.2.2.2.1.1 hP hD hS B.2.2.2.2.2.2 ok.1 hfs hcells hslots hd (fun q H1 hP1 hD1 hS1 => kk q H1 locs ls hP1 hD1 hS1 hl)
theorem r_obj (B : Bx p s m args meth c cc own nL D cy A) {index a : Nat} (hlink : Cond.methodLink own index objectInit ∈ gtb) (hinst : Cond.instanceMethod objectInit ∈ gtb) (hcode : Cond.code objectInit ⟨#[0xb1]⟩ 1 none ∈ gtb) (hd : decode cc pc = .ok (.invokespecial index, 3)) (hfr : 1 ≤ R.frames) (hrest : (stk.map fun v => v.category).sum + 12 ≤ R.locals) (kk : Gr p l e R s m args below meth c D A nL Q cells slots (pc + 3) lv stk ws) : Gr p l e R s m args below meth c D A nL Q cells slots pc lv (.ref a :: stk) ws := by
  intro H locs ls hP hD hS hl
  refine W.objInit B.1 B.2.1 B.2.2.2.1 (B.2.2.2.2.1 _ hlink) (B.2.2.2.2.1 _ hinst) (B.2.2.2.2.1 _ hcode) rfl (by rw [B.2.2.1]; exact hl.1) rfl hd hfr ?_ ?_
  · show 2 * 0 + _ + 12 ≤ _
    omega
  · exact kk H locs ls hP hD hS hl
theorem r_iast (B : Bx p s m args meth c cc own nL D cy A) {a n : Nat} {f : Nat → Int32} {i x : Int32} (q0 : Nat) (ha : ws[q0]? = some (a, .inl (cy 9, n, .inl f))) (hin : inb i n = true) (hd : decode cc pc = .ok (.iastore, 1)) {ws' : va_W} (hw : ws.set q0 (a, .inl (cy 9, n, .inl (upd f i.toNatClampNeg x))) = ws') (kk : Gr p l e R s m args below meth c D A nL Q cells slots (pc + 1) lv stk ws') : Gr p l e R s m args below meth c D A nL Q cells slots pc lv (.int x :: .int i :: .ref a :: stk) ws := by
  intro H locs ls hP hD hS hl
  subst hw
  exact va_iast B.1 B.2.1 B.2.2.2.2.2.1.1 hP hD hS q0 0 ha rfl (inb_in hin) hd (fun H1 locs1 hP1 hD1 hS1 => kk H1 locs1 ls hP1 hD1 hS1 hl)
theorem r_zast (B : Bx p s m args meth c cc own nL D cy A) {a n : Nat} {f : Nat → Int32} {i x : Int32} (q0 : Nat) (ha : ws[q0]? = some (a, .inl (cy 10, n, .inl f))) (hin : inb i n = true) (hd : decode cc pc = .ok (.bastore, 1)) {ws' : va_W} (hw : ws.set q0 (a, .inl (cy 10, n, .inl (upd f i.toNatClampNeg (vp_nar .boolean x)))) = ws') (kk : Gr p l e R s m args below meth c D A nL Q cells slots (pc + 1) lv stk ws') : Gr p l e R s m args below meth c D A nL Q cells slots pc lv (.int x :: .int i :: .ref a :: stk) ws := by
  intro H locs ls hP hD hS hl
  subst hw
  exact va_zast B.1 B.2.1 B.2.2.2.2.2.1.1 hP hD hS q0 1 ha rfl (inb_in hin) hd (fun H1 locs1 hP1 hD1 hS1 => kk H1 locs1 ls hP1 hD1 hS1 hl)
theorem r_aastS (B : Bx p s m args meth c cc own nL D cy A) {a n v : Nat} {f : Nat → Option Nat} {vs : List Value} {i : Int32} (q0 qk : Nat) (ha : ws[q0]? = some (a, .inl (cy 12, n, .inr (.inr (.inr (.inr f)))))) (hv : ws[qk]? = some (v, .inr (5, vs))) (hin : inb i n = true) (hd : decode cc pc = .ok (.aastore, 1)) {ws' : va_W} (hw : ws.set q0 (a, .inl (cy 12, n, .inr (.inr (.inr (.inr (va_up f i.toNatClampNeg (some v))))))) = ws') (kk : Gr p l e R s m args below meth c D A nL Q cells slots (pc + 1) lv stk ws') : Gr p l e R s m args below meth c D A nL Q cells slots pc lv (.ref v :: .int i :: .ref a :: stk) ws := by
  intro H locs ls hP hD hS hl
  subst hw
  exact va_astq (r := (RX5, TX5, 8)) B.1 B.2.1 B.2.2.2.2.2.1.1 hP hD hS q0 3 qk 5 ha rfl hv rfl (inb_in hin) hd (fun H1 locs1 hP1 hD1 hS1 => kk H1 locs1 ls hP1 hD1 hS1 hl)
theorem r_aastP (B : Bx p s m args meth c cc own nL D cy A) {a n v : Nat} {f : Nat → Option Nat} {vs : List Value} {i : Int32} (q0 qk : Nat) (ha : ws[q0]? = some (a, .inl (cy 11, n, .inr (.inr (.inr (.inr f)))))) (hv : ws[qk]? = some (v, .inr (2, vs))) (hin : inb i n = true) (hd : decode cc pc = .ok (.aastore, 1)) {ws' : va_W} (hw : ws.set q0 (a, .inl (cy 11, n, .inr (.inr (.inr (.inr (va_up f i.toNatClampNeg (some v))))))) = ws') (kk : Gr p l e R s m args below meth c D A nL Q cells slots (pc + 1) lv stk ws') : Gr p l e R s m args below meth c D A nL Q cells slots pc lv (.ref v :: .int i :: .ref a :: stk) ws := by
  intro H locs ls hP hD hS hl
  subst hw
  exact va_astq (r := (RX2, TX2, 6)) B.1 B.2.1 B.2.2.2.2.2.1.1 hP hD hS q0 2 qk 2 ha rfl hv rfl (inb_in hin) hd (fun H1 locs1 hP1 hD1 hS1 => kk H1 locs1 ls hP1 hD1 hS1 hl)
theorem r_alenP (B : Bx p s m args meth c cc own nL D cy A) {a n : Nat} {f : Nat → Option Nat} {v : Int32} (q0 : Nat) (ha : ws[q0]? = some (a, .inl (cy 11, n, .inr (.inr (.inr (.inr f)))))) (hv : Int32.ofNat n = v) (hd : decode cc pc = .ok (.arraylength, 1)) (kk : Gr p l e R s m args below meth c D A nL Q cells slots (pc + 1) lv (.int v :: stk) ws) : Gr p l e R s m args below meth c D A nL Q cells slots pc lv (.ref a :: stk) ws := fun H locs ls hP hD hS hl => va_alen (x := (n, .inr (.inr (.inr (.inr f))))) B.1 B.2.1 B.2.2.2.2.2.1.1 hP q0 2 ha rfl hv hd (kk H locs ls hP hD hS hl)
theorem r_eq {ws' : va_W} (hw : ws = ws') (kk : Gr p l e R s m args below meth c D A nL Q cells slots pc lv stk ws') : Gr p l e R s m args below meth c D A nL Q cells slots pc lv stk ws := hw ▸ kk
theorem r_lv (ks : List Nat) {lv2 : List (Nat × Value)} (hk : lv_pick lv ks = lv2) (kk : Gr p l e R s m args below meth c D A nL Q cells slots pc lv2 stk ws) : Gr p l e R s m args below meth c D A nL Q cells slots pc lv stk ws := fun H locs ls hP hD hS hl => kk H locs ls hP hD hS (lv_sub hl ks hk)
end RR
