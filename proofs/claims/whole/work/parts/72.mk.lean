-- contracts of constructors, and calls out of a growing world
def rmK (d mc ms : Nat) : Room := { frames := d, cells := mc, slots := ms, locals := 40 * d }
def Mk (l : Launch) (D : va_G) (cy : Nat → ClassId) (y : MethodName) (cc : ByteArray) (n d mc ms ci : Nat) (fs0 av : List Value) (L : List Nat) (post : Nat → (Nat → Nat) × St → Prop) : Prop := ∀ sz h0 : Nat, Met l y (wsy y cc n none) (rmK d mc ms) (va_Pc (.ref h0 :: av) (fun U => U.heap.size = sz ∧ va_P D classes [(h0, .inr (ci, fs0))] U.heap ∧ KK D cy U ∧ va_D (fun _ => True) [(h0, .inr (ci, fs0))])) (va_Qv (post h0) (fun u t => va_P D classes (wd L u.1 cy u.2) t.heap ∧ va_D (va_A [(h0, .inr (ci, fs0))] sz) (wd L u.1 cy u.2)) (va_A [(h0, .inr (ci, fs0))] sz)) mc ms (va_A [(h0, .inr (ci, fs0))] sz)
theorem va_P.left {D : va_G} {cl : List vw_C} {w1 w2 : va_W} {H : Heap} (h : va_P D cl (w1 ++ w2) H) : va_P D cl w1 H := fun k q hk => h k q (by rw [List.getElem?_append_left (List.getElem?_eq_some_iff.mp hk).1]; exact hk)
theorem va_P.right {D : va_G} {cl : List vw_C} {w1 w2 : va_W} {H : Heap} (h : va_P D cl (w1 ++ w2) H) : va_P D cl w2 H := fun k q hk => h (w1.length + k) q (by rw [List.getElem?_append_right (by omega), Nat.add_sub_cancel_left]; exact hk)
theorem va_D.left {A : Nat → Prop} {w1 w2 : va_W} (h : va_D A (w1 ++ w2)) : va_D A w1 := by
  have at' : ∀ (k : Nat) (q : Nat × va_E), w1[k]? = some q → (w1 ++ w2)[k]? = some q := fun k q hk => by rw [List.getElem?_append_left (List.getElem?_eq_some_iff.mp hk).1]; exact hk
  exact ⟨fun i j x y hx hy hxy => h.1 i j x y (at' i x hx) (at' j y hy) hxy, fun k q hk => h.2 k q (at' k q hk)⟩
theorem va_D.right {A : Nat → Prop} {w1 w2 : va_W} (h : va_D A (w1 ++ w2)) : va_D A w2 := by
  have at' : ∀ (k : Nat) (q : Nat × va_E), w2[k]? = some q → (w1 ++ w2)[w1.length + k]? = some q := fun k q hk => by rw [List.getElem?_append_right (by omega), Nat.add_sub_cancel_left]; exact hk
  exact ⟨fun i j x y hx hy hxy => by have := h.1 _ _ x y (at' i x hx) (at' j y hy) hxy; omega, fun k q hk => h.2 _ q (at' k q hk)⟩
theorem va_D.apart {A : Nat → Prop} {w1 w2 : va_W} (h : va_D A (w1 ++ w2)) : ∀ (i j : Nat) (x y : Nat × va_E), w1[i]? = some x → w2[j]? = some y → x.1 ≠ y.1 := by
  intro i j x y hx hy hxy
  have hi := (List.getElem?_eq_some_iff.mp hx).1
  have h1 : (w1 ++ w2)[i]? = some x := by rw [List.getElem?_append_left hi]; exact hx
  have h2 : (w1 ++ w2)[w1.length + j]? = some y := by rw [List.getElem?_append_right (by omega), Nat.add_sub_cancel_left]; exact hy
  have := h.1 _ _ x y h1 h2 hxy
  omega
/-- behind a call: the first cells stay, the last ones are the callee's -/
theorem x_join {A0 : Nat → Prop} {D : va_G} {cl : List vw_C} {ws wc w1 : va_W} {H H1 : Heap} (hP : va_P D cl (ws ++ wc) H) (hD : va_D A0 (ws ++ wc)) (hk : ∀ q : Nat, q < H.size → ¬ va_A wc H.size q → H1[q]? = H[q]?) (hF : ∀ q, va_A wc H.size q → A0 q) (hP1 : va_P D cl w1 H1) (hD1 : va_D (va_A wc H.size) w1) : va_P D cl (ws ++ w1) H1 ∧ va_D A0 (ws ++ w1) := by
  have apart : ∀ (k : Nat) (q : Nat × va_E), ws[k]? = some q → q.1 < H.size ∧ ¬ va_A wc H.size q.1 := by
    intro k q hq
    have hl := (hP.left k q hq).lt
    refine ⟨hl, fun h => ?_⟩
    rcases h with ⟨k2, e, h⟩ | h
    · exact hD.apart k k2 q (q.1, e) hq h rfl
    · omega
  refine ⟨va_P.app (fun k q hq => ?_) hP1, va_D.app hD.left (hD1.weaken (fun k q _ h => hF q.1 h)) (fun i j x y hx hy hxy => ?_)⟩
  · obtain ⟨g1, g2⟩ := apart k q hq
    exact (hP.left k q hq).kept (hk q.1 g1 g2)
  · exact (apart i x hx).2 (by rw [hxy]; exact hD1.2 j y hy)
theorem va_P.refs {D : va_G} {cl : List vw_C} {ws : va_W} {H : Heap} (h : va_P D cl ws H) (q0 : Nat) {a n : Nat} {cA : ClassId} {f f' : Nat → Option Nat} (ha : ws[q0]? = some (a, .inl (cA, n, .inr (.inr (.inr (.inr f)))))) (hf : ∀ i, i < n → f i = f' i) : va_P D cl (ws.set q0 (a, .inl (cA, n, .inr (.inr (.inr (.inr f')))))) H := by
  intro k q hk
  rw [List.getElem?_set] at hk
  split at hk
  · split at hk
    · cases hk
      have := h q0 _ ha
      show H[a]? = some (vp_cell cA _)
      have h2 : H[a]? = some (vp_cell cA (n, .inr (.inr (.inr (.inr f))))) := this
      rw [h2, vp_cell_q, vp_cell_q]
      unfold arrV
      congr 2
      congr 1
      funext j
      show va_rf (f j.val) = va_rf (f' j.val)
      rw [hf j.val j.isLt]
    · cases hk
  · exact h k q hk
theorem va_D.refs {A : Nat → Prop} {ws : va_W} (h : va_D A ws) (q0 : Nat) {a : Nat} {x x' : va_E} (ha : ws[q0]? = some (a, x)) : va_D A (ws.set q0 (a, x')) := h.set ha
section RC
variable {p : Program} {l : Launch} {e : Env} {R : Room} {s : State} {m : MethodId} {args : Array Value} {below : List Frame} {meth : Method} {c : Code} {D : va_G} {cy : Nat → ClassId} {A : Nat → Prop} {nL cells slots : Nat} {Q : State → Prop} {cc : ByteArray} {own : String} {pc : Nat} {lv : List (Nat × Value)} {stk rest : List Value} {ws : va_W}
theorem mk_of {y : MethodName} {n d mc ms ci : Nat} {fs0 av : List Value} {L : List Nat} {post : Nat → (Nat → Nat) × St → Prop} (hy : plainName y.cls = true) (hown : y.cls = own) (hnm : y.name = "<init>") (hav : ∀ h0, (lg_sl (.ref h0 :: av)).length ≤ n)
    (body : ∀ (p : Program) (e : Env) (s : State) (m : MethodId) (args : Array Value) (below : List Frame) (meth : Method) (c : Code) (A : Nat → Prop) (h0 : Nat), Bx p s m args meth c cc own n D cy A → meth.sig.returnType = none → meth.locks = false → meth.name = "<init>" → Gr p l e (rmK d mc ms) s m args below meth c D A n (MQ below (va_Qv (post h0) (fun u t => va_P D classes (wd L u.1 cy u.2) t.heap ∧ va_D A (wd L u.1 cy u.2)) A) args s mc ms A) 0 0 0 (lv_args 0 (.ref h0 :: av)) [] [(h0, .inr (ci, fs0))]) : Mk l D cy y cc n d mc ms ci fs0 av L post := by
  intro sz h0
  subst hown
  refine Met.ofW (cc := cc) (maxL := n) (ret := none) hy rfl ?_
  intro p e s m args below meth c s₁ B hml hv
  obtain ⟨rfl, hsz, hP, hK, hD0⟩ := hv
  subst hsz
  have hts := atoms_spec (ws := wsy y cc n none) B.pre
  have hl := lv_entry (.ref h0 :: av) (n := n) (hav h0)
  rw [lg_entry_eq]
  exact body p e s m _ below meth c (va_A [(h0, .inr (ci, fs0))] s.heap.size) h0 ⟨B.exec, B.bytes, hml, findClass_of_methodNamed B.named, fun w hw => hts w (List.mem_cons_of_mem _ hw), hK, fun q h => Or.inr h⟩ B.returns B.notSynchronized ((name_of_methodNamed B.named B.method).1.trans hnm) s.heap [] _ hP (hD0.self (sz := s.heap.size)) va_S.rf hl
theorem r_vret (B : Bx p s m args meth c cc own nL D cy A) (hr : meth.sig.returnType = none) (hlk : meth.locks = false) {L : List Nat} {mc ms : Nat} {post : (Nat → Nat) × St → Prop} (u : (Nat → Nat) × St) (hw : ws = wd L u.1 cy u.2) (hpost : post u) (hc : cells ≤ mc) (hs : slots ≤ ms) (hd : decode cc pc = .ok (.return_, 1)) : Gr p l e R s m args below meth c D A nL (MQ below (va_Qv post (fun u t => va_P D classes (wd L u.1 cy u.2) t.heap ∧ va_D A (wd L u.1 cy u.2)) A) args s mc ms A) cells slots pc lv [] ws := by
  intro H locs ls hP hD hS hl
  subst hw
  refine W.widen hc hs ?_
  exact W.vret B.1 B.2.1 hr (fun t ht hW => ⟨⟨u, rfl, hpost, by rw [ht]; exact hP, hD⟩, hS.F ht⟩) hS.2.2 hd
theorem blindK {av : List Value} {sz : Nat} {w : va_W} : FrameBlind (va_Pc av (fun U => U.heap.size = sz ∧ va_P D classes w U.heap ∧ KK D cy U ∧ va_D (fun _ => True) w)) := fun a U g mk q => by
  obtain ⟨q0, q1, qP, qK, qD⟩ := q
  exact ⟨q0, q1, qP, qK.call g mk a, qD⟩
theorem r_init (B : Bx p s m args meth c cc own nL D cy A) {index n' d mc ms maxL ci q : Nat} {y : MethodName} {bytes : ByteArray} {fs0 av : List Value} {L : List Nat} {post : Nat → (Nat → Nat) × St → Prop} (F : MF y bytes maxL none n') (hy1 : y.name = "<init>") (hlink : Cond.methodLink own index y ∈ gtb) (hinst : Cond.instanceMethod y ∈ gtb) (hd : decode cc pc = .ok (.invokespecial index, 3)) (hn : av.length = n') (hs : stk = av.reverse ++ .ref q :: rest) (hR : d + 1 ≤ R.frames ∧ 8 + (maxL + 11) + 40 * d ≤ R.locals) (hrest : (rest.map fun v => v.category).sum ≤ 8) (hcs : cells + mc ≤ R.cells ∧ slots + ms ≤ R.slots) (hM : Mk l D cy y bytes maxL d mc ms ci fs0 av L post)
    (kk : ∀ u : (Nat → Nat) × St, post q u → Gr p l e R s m args below meth c D A nL Q (cells + mc) (slots + ms) (pc + 3) lv rest (ws ++ wd L u.1 cy u.2)) : Gr p l e R s m args below meth c D A nL Q cells slots pc lv stk (ws ++ [(q, .inr (ci, fs0))]) := by
  intro H locs ls hP hD hS hl
  subst hs
  have hPc := hP.right
  have hDc := hD.right
  have hFc : ∀ z, va_A [(q, .inr (ci, fs0))] H.size z → A z := by
    intro z h
    rcases h with ⟨k, e, h⟩ | h
    · exact hDc.2 k (z, e) h
    · exact B.2.2.2.2.2.2 z (Nat.le_trans hS.1 h)
  refine va_callv (A1 := va_A [(q, .inr (ci, fs0))] H.size) (va_runI ⟨B.1, B.2.1, B.2.2.1, B.2.2.2.1, B.2.2.2.2.1⟩ (hM H.size q) ⟨callB_of n' B.2.2.2.2.1 (wsy_good F.1) rfl rfl rfl (B.2.2.2.2.1 _ F.2.1) (B.2.2.2.2.1 _ hlink) ⟨F.2.2.1.1, F.2.2.1.2, F.2.2.2⟩ hR, hy1, B.2.2.2.2.1 _ hinst⟩ ⟨blindK, fun U hU hW => ⟨rfl, by rw [hU], by rw [hU]; exact hPc, B.2.2.2.2.2.1.warm hW, hDc.weaken (fun _ _ _ _ => trivial)⟩⟩ rfl hn hl.1 rfl (lv_room hrest) hd hcs) hS (fun z _ h => hFc z h) hFc (fun u t H1 locs1 ht hvm hpost hB hz1 hk1 hS1 => ?_)
  obtain ⟨hP1, hD1⟩ := hB
  rw [ht] at hP1
  obtain ⟨hP2, hD2⟩ := x_join hP hD hk1 hFc hP1 hD1
  exact kk u hpost H1 locs1 ls hP2 hD2 hS1 hl
theorem r_initN (B : Bx p s m args meth c cc own nL D cy A) {index n' d mc ms maxL ci q : Nat} {host : String} {y : MethodName} {bytes : ByteArray} {fs0 av : List Value} {L : List Nat} {post : Nat → (Nat → Nat) × St → Prop} (F : MF y bytes maxL none n') (hy1 : y.name = "<init>") (hlink : va_Nw (.methodLinkNest own index y host) s) (hinst : Cond.instanceMethod y ∈ gtb) (hd : decode cc pc = .ok (.invokespecial index, 3)) (hn : av.length = n') (hs : stk = av.reverse ++ .ref q :: rest) (hR : d + 1 ≤ R.frames ∧ 8 + (maxL + 11) + 40 * d ≤ R.locals) (hrest : (rest.map fun v => v.category).sum ≤ 8) (hcs : cells + mc ≤ R.cells ∧ slots + ms ≤ R.slots) (hM : Mk l D cy y bytes maxL d mc ms ci fs0 av L post)
    (kk : ∀ u : (Nat → Nat) × St, post q u → Gr p l e R s m args below meth c D A nL Q (cells + mc) (slots + ms) (pc + 3) lv rest (ws ++ wd L u.1 cy u.2)) : Gr p l e R s m args below meth c D A nL Q cells slots pc lv stk (ws ++ [(q, .inr (ci, fs0))]) := by
  intro H locs ls hP hD hS hl
  subst hs
  have hPc := hP.right
  have hDc := hD.right
  have hFc : ∀ z, va_A [(q, .inr (ci, fs0))] H.size z → A z := by
    intro z h
    rcases h with ⟨k, e, h⟩ | h
    · exact hDc.2 k (z, e) h
    · exact B.2.2.2.2.2.2 z (Nat.le_trans hS.1 h)
  refine va_callv (A1 := va_A [(q, .inr (ci, fs0))] H.size) (va_runIN ⟨B.1, B.2.1, B.2.2.1, B.2.2.2.1, B.2.2.2.2.1⟩ (hM H.size q) ⟨va_cnB n' B.2.2.2.2.1 (wsy_good F.1) rfl rfl rfl hlink (B.2.2.2.2.1 _ F.2.1) ⟨F.2.2.1.1, F.2.2.1.2, F.2.2.2⟩ hR, hy1, B.2.2.2.2.1 _ hinst⟩ ⟨blindK, fun U hU hW => ⟨rfl, by rw [hU], by rw [hU]; exact hPc, B.2.2.2.2.2.1.warm hW, hDc.weaken (fun _ _ _ _ => trivial)⟩⟩ rfl hn hl.1 rfl (lv_room hrest) hd hcs) hS (fun z _ h => hFc z h) hFc (fun u t H1 locs1 ht hvm hpost hB hz1 hk1 hS1 => ?_)
  obtain ⟨hP1, hD1⟩ := hB
  rw [ht] at hP1
  obtain ⟨hP2, hD2⟩ := x_join hP hD hk1 hFc hP1 hD1
  exact kk u hpost H1 locs1 ls hP2 hD2 hS1 hl
/-- the cells of a world -/
def inW (L : List Nat) (ad : Nat → Nat) : Nat → Prop := fun z => ∃ k, k ∈ L ∧ z = ad k
theorem inW_D {L : List Nat} {ad : Nat → Nat} {st st' : St} (h : va_D A (wd L ad cy st)) : va_D (inW L ad) (wd L ad cy st') := by
  refine ⟨(wd_D (st' := st') h).1, fun k q hk => ?_⟩
  obtain ⟨a, ha, rfl⟩ := wd_inv hk
  exact ⟨a, List.mem_of_getElem? ha, rfl⟩
theorem r_run {L : List Nat} {ad : Nat → Nat} {st st' : St} {ov : Option Value} {st0 : List Value} {a : Array Value} {H : Heap} {locs : List Loc} {ls : Array Slot} (hP : va_P D classes (ws ++ wd L ad cy st) H) (hD : va_D A (ws ++ wd L ad cy st)) (hr : va_Run p l e R s m args below meth c H locs cells slots 0 0 (F0 m pc ls st0) rest (QG D cy ad (inW L ad) L ov st' a) (inW L ad)) (hS : va_S A s.heap H locs) (hl : lv_has ls nL lv)
    (kk : Gr p l e R s m args below meth c D A nL Q cells slots (pc + 3) lv (ov.toList ++ rest) (ws ++ wd L ad cy st')) : W p l e R s m args below meth c H locs cells slots Q (F0 m pc ls st0) := by
  have hin : ∀ q, inW L ad q → A q := by
    rintro q ⟨k, hk, rfl⟩
    obtain ⟨i, hi⟩ := List.getElem?_of_mem hk
    exact hD.right.2 i (ad k, ce ad cy st k) (wd_get hi)
  have hout : ∀ (i : Nat) (x : Nat × va_E), ws[i]? = some x → ¬ inW L ad x.1 := by
    rintro i x hx ⟨k, hk, hxk⟩
    obtain ⟨j, hj⟩ := List.getElem?_of_mem hk
    exact hD.apart i j x (ad k, ce ad cy st k) hx (wd_get hj) hxk
  intro T hT X
  obtain ⟨v, st₀, t, T', L', h0, X', hL, e1, e2, ⟨hv, ⟨hP1, -, -⟩, hz, hk⟩, st⟩ := hr T hT X
  cases hv
  rw [h0] at hz hk
  obtain ⟨t2, a1, b1⟩ := kk T'.heap (locs ++ L') ls (va_P.app (fun i x hx => (hP.left i x hx).kept (by rw [e1]; exact hk x.1 ((hP.left i x hx).lt) (hout i x hx))) (by rw [e1]; exact hP1)) (va_D.app hD.left (wd_D (st' := st') hD.right) (fun i j x y hx hy hxy => by
      obtain ⟨a, ha, rfl⟩ := wd_inv hy
      exact hout i x hx ⟨a, List.mem_of_getElem? ha, hxy⟩)) ⟨Nat.le_trans hS.1 (by rw [e1]; exact hz), fun q h1 h2 => by rw [e1, hk q (Nat.lt_of_lt_of_le h1 hS.1) (fun z => h2 (hin q z))]; exact hS.2.1 q h1 h2, fun q hq => by
      rcases List.mem_append.mp hq with h | h
      · exact hS.2.2 q h
      · exact hin _ (hL q h)⟩ hl T' rfl X'
  exact ⟨t2, st t2 a1, b1⟩
theorem r_ctV (B : Bx p s m args meth c cc own nL D cy A) {index n d maxL k ci : Nat} {y : MethodName} {bytes : ByteArray} {ret : Option FieldType} {Cn : String} {T : u_T} {N : Nat} {As : List Value} {L : List Nat} {ad : Nat → Nat} {st st' : St} {ov : Option Value} (F : MF y bytes maxL ret n) (ok : clsOk ci (Cn, T, N)) (hy : y.cls = Cn) (hlink : Cond.methodLink own index y ∈ gtb) (hinst : Cond.instanceMethod y ∈ gtb) (hsel : Cond.selects y.cls y y ∈ gtb) (hd : decode cc pc = .ok (.invokevirtual index, 3)) (hk : k ∈ L) (hkd : kd k = ci) (hn : As.length = n) (hs : stk = As.reverse ++ .ref (ad k) :: rest) (hR : d + 1 ≤ R.frames ∧ 8 + (maxL + 11) + 40 * d ≤ R.locals) (hrest : (rest.map fun v => v.category).sum ≤ 8) (hcs : cells + 0 ≤ R.cells ∧ slots + 0 ≤ R.slots) (hM : ∀ A' : Nat → Prop, Ct l D cy ad A' L y bytes maxL ret d (.ref (ad k) :: As) st ov st')
    (kk : Gr p l e R s m args below meth c D A nL Q cells slots (pc + 3) lv (ov.toList ++ rest) (ws ++ wd L ad cy st')) : Gr p l e R s m args below meth c D A nL Q cells slots pc lv stk (ws ++ wd L ad cy st) := by
  intro H locs ls hP hD hS hl
  subst hs
  obtain ⟨hc, h9, -⟩ := ok
  obtain ⟨q, hq⟩ := List.getElem?_of_mem hk
  subst hy
  exact r_run hP hD (va_runV (C := y.cls) ⟨B.1, B.2.1, B.2.2.1, B.2.2.2.1, B.2.2.2.2.1⟩ (hM (inW L ad)) ⟨callB_of n B.2.2.2.2.1 (wsy_good F.1) rfl rfl rfl (B.2.2.2.2.1 _ F.2.1) (B.2.2.2.2.1 _ hlink) ⟨F.2.2.1.1, F.2.2.1.2, F.2.2.2⟩ hR, B.2.2.2.2.1 _ hinst, B.2.2.2.2.1 _ hsel⟩ ⟨blind, va_recv B.2.2.2.2.2.1.1 hP.right hc ((wd_get hq).trans (by rw [ce_obj hkd h9])), fun U hU hW => ⟨rfl, by rw [hU]; exact hP.right, va_K.moved hW.alike B.2.2.2.2.2.1.1, inW_D hD.right⟩⟩ rfl hn hl.1 rfl (lv_room hrest) hd hcs) hS hl kk
theorem r_ctS (B : Bx p s m args meth c cc own nL D cy A) {index n d maxL : Nat} {y : MethodName} {bytes : ByteArray} {ret : Option FieldType} {As : List Value} {L : List Nat} {ad : Nat → Nat} {st st' : St} {ov : Option Value} (F : MF y bytes maxL ret n) (hlink : Cond.methodLink own index y ∈ gtb) (hstat : Cond.static y ∈ gtb) (hd : decode cc pc = .ok (.invokestatic index, 3)) (hn : As.length = n) (hs : stk = As.reverse ++ rest) (hR : d + 1 ≤ R.frames ∧ 8 + (maxL + 11) + 40 * d ≤ R.locals) (hrest : (rest.map fun v => v.category).sum ≤ 8) (hcs : cells + 0 ≤ R.cells ∧ slots + 0 ≤ R.slots) (hM : ∀ A' : Nat → Prop, Ct l D cy ad A' L y bytes maxL ret d As st ov st')
    (kk : Gr p l e R s m args below meth c D A nL Q cells slots (pc + 3) lv (ov.toList ++ rest) (ws ++ wd L ad cy st')) : Gr p l e R s m args below meth c D A nL Q cells slots pc lv stk (ws ++ wd L ad cy st) := by
  intro H locs ls hP hD hS hl
  subst hs
  exact r_run hP hD (va_runS ⟨B.1, B.2.1, B.2.2.1, B.2.2.2.1, B.2.2.2.2.1⟩ (hM (inW L ad)) ⟨callB_of n B.2.2.2.2.1 (wsy_good F.1) rfl rfl rfl (B.2.2.2.2.1 _ F.2.1) (B.2.2.2.2.1 _ hlink) ⟨F.2.2.1.1, F.2.2.1.2, F.2.2.2⟩ hR, B.2.2.2.2.1 _ hstat⟩ ⟨blind, fun U hU hW => ⟨rfl, by rw [hU]; exact hP.right, va_K.moved hW.alike B.2.2.2.2.2.1.1, inW_D hD.right⟩⟩ rfl hn hl.1 rfl (lv_room hrest) hd hcs) hS hl kk
theorem r_refs {a n : Nat} {cA : ClassId} {f f' : Nat → Option Nat} (q0 : Nat) (ha : ws[q0]? = some (a, .inl (cA, n, .inr (.inr (.inr (.inr f)))))) (hf : ∀ i, i < n → f i = f' i) {ws' : va_W} (hw : ws.set q0 (a, .inl (cA, n, .inr (.inr (.inr (.inr f'))))) = ws') (kk : Gr p l e R s m args below meth c D A nL Q cells slots pc lv stk ws') : Gr p l e R s m args below meth c D A nL Q cells slots pc lv stk ws := by
  subst hw
  exact fun H locs ls hP hD hS hl => kk H locs ls (hP.refs q0 ha hf) (hD.refs q0 ha) hS hl
end RC
