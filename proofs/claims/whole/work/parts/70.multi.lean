-- int[2][n]
section MA
variable {p : Program} {l : Launch} {e : Env} {R : Room} {s : State} {m : MethodId} {args : Array Value} {below : List Frame} {meth : Method} {c : Code} {H : Heap} {locs : List Loc} {cells slots : Nat} {Q : State → Prop}
theorem ma_new {E : CtlPost} {d : Bool} {acts : List Action} {T : State} {cA comp : ClassId} {kA : Class} {ty : FieldType} {n : Nat} {v0 : Value} {Qa : Addr → Pre} (hk : T.vm.classes[cA]? = some kA) (hkind : kA.kind = .array comp ty) (hf : fits ty v0 = true) (hd0 : v0.isDefault = true) (hlimit : ¬ n > e.platform.arrayLengthLimit) (hheap : ¬ n * componentBytes ty > e.platform.maxHeapBytes) (h1 : T.heap.size < e.platform.maxCells) (h2 : T.slotsUsed + n ≤ e.platform.maxSlots) (hq : Qa T.heap.size d acts (T.pushCell { cls := cA, slots := Array.replicate n v0, vm := .none })) : wp (Jvm.newArray cA n v0) Qa E e d acts T := by
  have hfit : ∀ i v, (Array.replicate n v0)[i]? = some v → T.fitsSlot cA .none i v = true := by
    intro i v hv
    simp only [Array.getElem?_replicate] at hv
    split at hv
    · cases hv; simp [State.fitsSlot, State.slotType?, hk, hkind, hf]
    · cases hv
  have hdef : allocActs (Array.replicate n v0) T.heap.size acts = acts := by
    have hall : ((Array.replicate n v0).all (·.isDefault)) = true := by
      rw [Array.all_replicate]; split <;> simp [hd0]
    unfold allocActs; rw [if_pos hall]
  have h3 : ¬ n > e.platform.maxSlots := by omega
  simp only [Jvm.newArray, Jvm.arrayFits, wp_bind', W.ask, W.ite, hlimit, if_false, wp_pure', W.theClass, hk, Option.some.injEq, exists_eq_left', hkind, hheap, h3, W.alloc, Array.size_replicate, hdef]
  exact ⟨h1, h2, hfit, hq⟩
def maO (cA : ClassId) : Cell := { cls := cA, slots := Array.replicate 2 .null, vm := .none }
def maI (cI : ClassId) (N : Nat) : Cell := { cls := cI, slots := Array.replicate N (.int 0), vm := .none }
def maO1 (cA : ClassId) (h : Nat) : Cell := (maO cA).setSlot 0 (.ref (h + 1))
def maO2 (cA : ClassId) (h : Nat) : Cell := (maO1 cA h).setSlot 1 (.ref (h + 2))
def maF (T : State) (cA cI : ClassId) (N : Nat) : State := ((((T.pushCell (maO cA)).pushCell (maI cI N)).setCell T.heap.size (maO1 cA T.heap.size)).pushCell (maI cI N)).setCell T.heap.size (maO2 cA T.heap.size)
theorem ma_inner {E : CtlPost} {d : Bool} {acts : List Action} {T : State} {cI cp : ClassId} {kI : Class} {n : Int32} {Qa : Addr → Pre} (hkI : T.vm.classes[cI]? = some kI) (hkindI : kI.kind = .array cp .int) (hn : ¬ n < 0) (hlN : ¬ n.toNatClampNeg > e.platform.arrayLengthLimit) (hhN : ¬ n.toNatClampNeg * componentBytes .int > e.platform.maxHeapBytes) (h1 : T.heap.size < e.platform.maxCells) (h2 : T.slotsUsed + n.toNatClampNeg ≤ e.platform.maxSlots) (hq : Qa T.heap.size d acts (T.pushCell (maI cI n.toNatClampNeg))) : wp (Op.multianewarray.make cI [n]) Qa E e d acts T := by
  simp only [Op.multianewarray.make, wp_bind', W.ite, hn, if_false, wp_pure', W.theClass, hkI, Option.some.injEq, exists_eq_left', hkindI]
  exact ma_new hkI hkindI rfl rfl hlN hhN h1 h2 hq
theorem ma_make {E : CtlPost} {d : Bool} {acts : List Action} {T : State} {cA cI cp : ClassId} {kA kI : Class} {n : Int32} {Qa : Addr → Pre} (hkA : T.vm.classes[cA]? = some kA) (hkindA : kA.kind = .array cI (.array .int)) (hkI : T.vm.classes[cI]? = some kI) (hkindI : kI.kind = .array cp .int) (hn : ¬ n < 0) (hl2 : ¬ 2 > e.platform.arrayLengthLimit) (hh2 : ¬ 2 * componentBytes (.array .int) > e.platform.maxHeapBytes) (hlN : ¬ n.toNatClampNeg > e.platform.arrayLengthLimit) (hhN : ¬ n.toNatClampNeg * componentBytes .int > e.platform.maxHeapBytes) (h1 : T.heap.size + 2 < e.platform.maxCells) (h2 : T.slotsUsed + (2 + n.toNatClampNeg + n.toNatClampNeg) ≤ e.platform.maxSlots) (hq : ∀ d' acts', Qa T.heap.size d' acts' (maF T cA cI n.toNatClampNeg)) : wp (Op.multianewarray.make cA [2, n]) Qa E e d acts T := by
  have h20 : ¬ (2 : Int32) < 0 := by decide
  have h2c : (2 : Int32).toNatClampNeg = 2 := rfl
  have h2z : ((2 : Int32) == 0) = false := by decide
  unfold Op.multianewarray.make
  simp only [wp_bind', W.ite, h20, if_false, wp_pure', W.theClass, hkA, Option.some.injEq, exists_eq_left', hkindA, h2c]
  refine ma_new hkA hkindA rfl rfl hl2 hh2 (by omega) (by omega) ?_
  simp only [h2z, Std.Legacy.Range.forIn_eq_forIn_range', show (List.range' 0 (Std.Legacy.Range.size [:2])) = [0, 1] from rfl, List.forIn_cons, List.forIn_nil, wp_bind', wp_pure', Bool.false_eq_true, if_false]
  refine ma_inner hkI hkindI hn hlN hhN (by simp; omega) (by simp; omega) ?_
  have hs1 : (T.pushCell (maO cA)).heap.size = T.heap.size + 1 := by simp
  have e0 : ((T.pushCell (maO cA)).pushCell (maI cI n.toNatClampNeg)).heap[T.heap.size]? = some (maO cA) := by
    show ((T.heap.push _).push _)[T.heap.size]? = _
    rw [Array.getElem?_push, if_neg (by simp), Array.getElem?_push, if_pos rfl]
  simp only [wp_bind', W.writeLoc, wp_pure']
  refine ⟨maO cA, e0, (fun h => by cases h), by show 0 < (Array.replicate 2 Value.null).size; rw [Array.size_replicate]; decide, by simp [maO, State.fitsSlot, State.slotType?, hkA, hkindA, fits], ?_⟩
  refine ma_inner (T := ((T.pushCell (maO cA)).pushCell (maI cI n.toNatClampNeg)).setCell T.heap.size ((maO cA).setSlot 0 (.ref (T.pushCell (maO cA)).heap.size))) hkI hkindI hn hlN hhN (by simp; omega) (by simp [maO, maI]; omega) ?_
  have hs3 : (((T.pushCell (maO cA)).pushCell (maI cI n.toNatClampNeg)).setCell T.heap.size ((maO cA).setSlot 0 (.ref (T.pushCell (maO cA)).heap.size))).heap.size = T.heap.size + 2 := by simp
  have e1 : ((((T.pushCell (maO cA)).pushCell (maI cI n.toNatClampNeg)).setCell T.heap.size ((maO cA).setSlot 0 (.ref (T.pushCell (maO cA)).heap.size))).pushCell (maI cI n.toNatClampNeg)).heap[T.heap.size]? = some ((maO cA).setSlot 0 (.ref (T.pushCell (maO cA)).heap.size)) := by
    show ((((T.heap.push _).push _).setIfInBounds T.heap.size _).push _)[T.heap.size]? = _
    rw [Array.getElem?_push, if_neg (by simp; omega), Array.getElem?_setIfInBounds, if_pos rfl, if_pos (by simp; omega)]
  simp only [wp_bind', W.writeLoc, wp_pure']
  refine ⟨_, e1, (fun h => by cases h), by show 1 < ((Array.replicate 2 Value.null).setIfInBounds 0 _).size; rw [Array.size_setIfInBounds, Array.size_replicate]; decide, by simp [maO, Cell.setSlot, State.fitsSlot, State.slotType?, hkA, hkindA, fits], ?_⟩
  rw [hs3, hs1]
  exact hq _ _
theorem ma_sem {E : CtlPost} {d : Bool} {acts : List Action} {T : State} {g : JFrame} {vm₁ : Vm} {index : Nat} {cA cI cp : ClassId} {kA kI : Class} {n : Int32} {rest : List Value} {Qa : Unit → Pre} (hs : T.topJava?.isSome) (hg : (Jvm.resolveClass g.method.cls index).Gives e.toSetting T.vm (.ok cA) vm₁) (hr : vm₁.classReady g.method.cls index cA) (hsz : vm₁.classes.size ≤ T.vm.classes.size) (hkA : vm₁.classes[cA]? = some kA) (hkindA : kA.kind = .array cI (.array .int)) (hkI : vm₁.classes[cI]? = some kI) (hkindI : kI.kind = .array cp .int) (hstack : g.stack = .int n :: .int 2 :: rest) (hn : ¬ n < 0) (hl2 : ¬ 2 > e.platform.arrayLengthLimit) (hh2 : ¬ 2 * componentBytes (.array .int) > e.platform.maxHeapBytes) (hlN : ¬ n.toNatClampNeg > e.platform.arrayLengthLimit) (hhN : ¬ n.toNatClampNeg * componentBytes .int > e.platform.maxHeapBytes) (h1 : T.heap.size + 2 < e.platform.maxCells) (h2 : T.slotsUsed + (2 + n.toNatClampNeg + n.toNatClampNeg) ≤ e.platform.maxSlots) (hq : ∀ d' acts', Qa () d' acts' ((maF (T.setVm vm₁) cA cI n.toNatClampNeg).setTop { g with stack := .ref T.heap.size :: rest })) : wp (Op.multianewarray.sem index 2) Qa E e d acts (T.setTop g) := by
  unfold Op.multianewarray.sem
  simp only [wp_bind']
  rw [W.resolveClassAt_transfer (s := T.setTop g) (State.method?_setTop g hs) hg hr hsz]
  rw [W.resolveClassAt_ready (s := (T.setTop g).setVm vm₁) (show ((T.setTop g).setVm vm₁).method? = some g.method from State.method?_setTop g hs) hr]
  simp only [wp_bind']
  rw [W.popN]
  rw [if_neg (by decide)]
  refine ⟨g, State.topJava?_setTop' (s := T.setVm vm₁) g hs, [.int 2, .int n], rest, rfl, hstack, ?_⟩
  simp only [List.mapM_cons, List.mapM_nil, wp_bind', wp_pure']
  rw [show ((T.setTop g).setVm vm₁).setTop { g with stack := rest } = (T.setVm vm₁).setTop { g with stack := rest } by rw [show (T.setTop g).setVm vm₁ = (T.setVm vm₁).setTop g from rfl, State.setTop_setTop]]
  refine ma_make (T := (T.setVm vm₁).setTop { g with stack := rest }) hkA hkindA hkI hkindI hn hl2 hh2 hlN hhN h1 h2 (fun d' acts' => ?_)
  rw [show maF ((T.setVm vm₁).setTop { g with stack := rest }) cA cI n.toNatClampNeg = (maF (T.setVm vm₁) cA cI n.toNatClampNeg).setTop { g with stack := rest } from rfl]
  simp only [wp_bind', W.mark, W.pushRef]
  refine ⟨_, State.topJava?_setTop' (s := maF (T.setVm vm₁) cA cI n.toNatClampNeg) _ hs, ?_⟩
  rw [State.setTop_setTop]
  exact hq _ _
theorem ma_row {cc : ByteArray} (hexec : p.tables.exec = Jvm.exec) (hb : c.code = cc) {own : String} {index : Nat} (hown : s.vm.findClass own = some m.cls) (hclink : (Cond.classLink own index "[[I").before args s = true) {cA cI cp : ClassId} {kA kI : Class} (hcA : s.vm.findClass "[[I" = some cA) (hkA : s.vm.classes[cA]? = some kA) (hkindA : kA.kind = .array cI (.array .int)) (hkI : s.vm.classes[cI]? = some kI) (hkindI : kI.kind = .array cp .int)
    {g : JFrame} (hg : g.method = m) (hdg : decode cc g.pc = .ok (.multianewarray index 2, 4)) {n : Int32} {N : Nat} {rest : List Value} (hstack : g.stack = .int n :: .int 2 :: rest) (hn : ¬ n < 0) (hN : n.toNatClampNeg = N) (hbytes : N * 4 ≤ 536870912) (hcells : cells + 3 ≤ R.cells) (hslots : slots + (2 + N + N) ≤ R.slots)
    (kk : ∀ H' : Heap, H'.size = H.size + 3 → H'[H.size]? = some (maO2 cA H.size) → H'[H.size + 1]? = some (maI cI N) → H'[H.size + 2]? = some (maI cI N) → (∀ q, q < H.size → H'[q]? = H[q]?) → W p l e R s m args below meth c H' (locs ++ [⟨H.size, 0⟩] ++ [⟨H.size, 1⟩]) (cells + 3) (slots + (2 + N + N)) Q { g with pc := g.pc + 4, stack := .ref H.size :: rest }) : W p l e R s m args below meth c H locs cells slots Q g := by
  intro T hT X
  subst hT; subst hb; subst hg; subst hN
  have hpl : e.platform.magicAccessors = ({} : Platform).magicAccessors := by rw [X.admits.platform]
  obtain ⟨cc', hfcc, hcl⟩ := Cond.classLink_spec hown hclink e.platform hpl
  cases hcA.symm.trans hfcc
  obtain ⟨hg₁, hwarm₁, hready₁⟩ := State.classEntry (e := e) X.warmed hcl
  have hsz : (T.vm.noted g.method.cls index (.cls cA)).classes.size ≤ T.vm.classes.size := by no_record
  generalize T.vm.noted g.method.cls index (.cls cA) = vm₁ at hg₁ hwarm₁ hready₁ hsz
  have hal : s.vm.Alike vm₁ := hwarm₁.alike
  obtain ⟨kA₁, hkA₁, heA⟩ := hal.2.2 _ _ hkA
  have hkindA₁ : kA₁.kind = .array cI (.array .int) := by rw [heA]; exact hkindA
  obtain ⟨kI₁, hkI₁, heI⟩ := hal.2.2 _ _ hkI
  have hkindI₁ : kI₁.kind = .array cp .int := by rw [heI]; exact hkindI
  have hlimit : ∀ k, k * 4 ≤ 536870912 → ¬ k > e.platform.arrayLengthLimit := by
    intro k hk
    rw [Launch.admits_arrayLengthLimit X.admits]; omega
  have hheap : ∀ k, k * 4 ≤ 536870912 → ¬ k * 4 > e.platform.maxHeapBytes := by
    intro k hk
    rw [Launch.admits_maxHeapBytes X.admits]; omega
  obtain ⟨hr1, hr2⟩ := X.roomAbove hcells hslots
  have e0 : (((T.setVm vm₁).pushCell (maO cA)).pushCell (maI cI n.toNatClampNeg)).heap[T.heap.size]? = some (maO cA) := by
    show ((T.heap.push _).push _)[T.heap.size]? = _
    rw [Array.getElem?_push, if_neg (by simp), Array.getElem?_push, if_pos rfl]
  have e1 : (((((T.setVm vm₁).pushCell (maO cA)).pushCell (maI cI n.toNatClampNeg)).setCell T.heap.size (maO1 cA T.heap.size)).pushCell (maI cI n.toNatClampNeg)).heap[T.heap.size]? = some (maO1 cA T.heap.size) := by
    show ((((T.heap.push _).push _).setIfInBounds T.heap.size _).push _)[T.heap.size]? = _
    rw [Array.getElem?_push, if_neg (by simp; omega), Array.getElem?_setIfInBounds, if_pos rfl, if_pos (by simp; omega)]
  have X₃ := ((X.noted hwarm₁).pushed (maO cA)).pushed (maI cI n.toNatClampNeg)
  have X₅ := (X₃.stored e0 0 (.ref (T.heap.size + 1))).pushed (maI cI n.toNatClampNeg)
  have X₆ := X₅.stored e1 1 (.ref (T.heap.size + 2))
  have hh : (maF (T.setVm vm₁) cA cI n.toNatClampNeg).heap = ((((T.heap.push (maO cA)).push (maI cI n.toNatClampNeg)).setIfInBounds T.heap.size (maO1 cA T.heap.size)).push (maI cI n.toNatClampNeg)).setIfInBounds T.heap.size (maO2 cA T.heap.size) := rfl
  obtain ⟨t', a1, b1⟩ := kk (maF (T.setVm vm₁) cA cI n.toNatClampNeg).heap (by rw [hh]; simp) (by rw [hh, Array.getElem?_setIfInBounds, if_pos rfl, if_pos (by simp; omega)]) (by rw [hh, Array.getElem?_setIfInBounds, if_neg (by omega), Array.getElem?_push, if_neg (by simp), Array.getElem?_setIfInBounds, if_neg (by omega), Array.getElem?_push, if_pos (by simp)]) (by rw [hh, Array.getElem?_setIfInBounds, if_neg (by omega), Array.getElem?_push, if_pos (by simp)]) (fun q hq => by rw [hh, Array.getElem?_setIfInBounds, if_neg (by omega), Array.getElem?_push, if_neg (by simp; omega), Array.getElem?_setIfInBounds, if_neg (by omega), Array.getElem?_push, if_neg (by simp; omega), Array.getElem?_push, if_neg (by omega)]) (maF (T.setVm vm₁) cA cI n.toNatClampNeg) rfl (by
      have := X₆
      simp only [maO, maI, Cell.setSlot, Array.size_replicate] at this
      rw [show cells + 3 = cells + 1 + 1 + 1 by omega, show slots + (2 + n.toNatClampNeg + n.toNatClampNeg) = slots + 2 + n.toNatClampNeg + n.toNatClampNeg by omega]
      exact this)
  refine ⟨t', ?_, b1⟩
  jvm_step X.here [hexec, hdg]
  refine ma_sem X.here.top hg₁ hready₁ hsz hkA₁ hkindA₁ hkI₁ hkindI₁ hstack hn (hlimit 2 (by decide)) (hheap 2 (by decide)) (hlimit _ hbytes) (hheap _ hbytes) (by omega) hr2 (fun d' acts' => ?_)
  intro acts
  rw [afterInstr_ok]
  exact a1
end MA
