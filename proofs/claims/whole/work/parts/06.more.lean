theorem lt_ex {α β : Type} {v : α} {B : α → Option β} {res : β} (h : lt v B = some res) : ∃ j, j = v ∧ B j = some res := ⟨v, rfl, h⟩
def itf {α : Type} (f : α → α) (z : α) : Nat → α
  | 0 => z
  | n + 1 => f (itf f z n)
def prF (k : Nat) : Bool := decide (k < 95)
def prM (k : Nat) : Bool := decide (k = 1 ∨ k = 25 ∨ k = 27)
def prG (k : Nat) : Bool := decide (k = 32 ∨ (37 ≤ k ∧ k ≤ 61))
theorem prM_F {k : Nat} (h : prM k = true) : prF k = true := by
  unfold prM prF at *
  simp only [decide_eq_true_eq] at *
  omega
theorem prG_F {k : Nat} (h : prG k = true) : prF k = true := by
  unfold prG prF at *
  simp only [decide_eq_true_eq] at *
  omega
theorem kd_lt {k ci : Nat} (h : kd k = ci) (hc : ci < 99) : k < 95 := by
  apply Nat.lt_of_not_le
  intro hk
  unfold kd at h
  rw [List.getD_eq_getElem?_getD, List.getElem?_eq_none (by exact hk)] at h
  simp at h
  omega
theorem prF_of {k ci : Nat} (h : kd k = ci) (hc : ci < 99) : prF k = true := decide_eq_true (kd_lt h hc)
theorem kd5_all : ∀ k, k < 95 → kd k = 5 → k = 1 ∨ k = 8 ∨ k = 15 := by decide +kernel
theorem kd2_all : ∀ k, k < 95 → kd k = 2 → k = 38 ∨ k = 41 ∨ k = 44 ∨ k = 47 ∨ k = 50 ∨ k = 53 := by decide +kernel
theorem kd5 {k : Nat} (h : kd k = 5) : k = 1 ∨ k = 8 ∨ k = 15 := kd5_all k (kd_lt h (by decide)) h
theorem kd2 {k : Nat} (h : kd k = 2) : k = 38 ∨ k = 41 ∨ k = 44 ∨ k = 47 ∨ k = 50 ∨ k = 53 := kd2_all k (kd_lt h (by decide)) h
theorem inb_lt {i : Int32} {n : Nat} (h : inb i n = true) : i.toNatClampNeg < n := Nat.not_le.mp fun q => (inb_in h) (Or.inr q)
theorem kdS1 {o : Nat} (h : kd o = 5) : kd (o + 1) = 9 := by rcases kd5 h with rfl | rfl | rfl <;> rfl
theorem lnS1 {o : Nat} (h : kd o = 5) : ln (o + 1) = 10 := by rcases kd5 h with rfl | rfl | rfl <;> rfl
theorem kdS2 {o : Nat} (h : kd o = 5) : kd (o + 2) = 9 := by rcases kd5 h with rfl | rfl | rfl <;> rfl
theorem lnS2 {o : Nat} (h : kd o = 5) : ln (o + 2) = 10 := by rcases kd5 h with rfl | rfl | rfl <;> rfl
theorem kdS3 {o : Nat} (h : kd o = 5) : kd (o + 3) = 9 := by rcases kd5 h with rfl | rfl | rfl <;> rfl
theorem lnS3 {o : Nat} (h : kd o = 5) : ln (o + 3) = 10 := by rcases kd5 h with rfl | rfl | rfl <;> rfl
theorem kdS4 {o : Nat} (h : kd o = 5) : kd (o + 4) = 9 := by rcases kd5 h with rfl | rfl | rfl <;> rfl
theorem lnS4 {o : Nat} (h : kd o = 5) : ln (o + 4) = 10 := by rcases kd5 h with rfl | rfl | rfl <;> rfl
theorem kdS5 {o : Nat} (h : kd o = 5) : kd (o + 5) = 9 := by rcases kd5 h with rfl | rfl | rfl <;> rfl
theorem lnS5 {o : Nat} (h : kd o = 5) : ln (o + 5) = 7 := by rcases kd5 h with rfl | rfl | rfl <;> rfl
theorem kdS6 {o : Nat} (h : kd o = 5) : kd (o + 6) = 9 := by rcases kd5 h with rfl | rfl | rfl <;> rfl
theorem lnS6 {o : Nat} (h : kd o = 5) : ln (o + 6) = 7 := by rcases kd5 h with rfl | rfl | rfl <;> rfl
theorem kdP1 {o : Nat} (h : kd o = 2) : kd (o + 1) = 9 := by rcases kd2 h with rfl | rfl | rfl | rfl | rfl | rfl <;> rfl
theorem lnP1 {o : Nat} (h : kd o = 2) : ln (o + 1) = 7 := by rcases kd2 h with rfl | rfl | rfl | rfl | rfl | rfl <;> rfl
theorem kdP2 {o : Nat} (h : kd o = 2) : kd (o + 2) = 9 := by rcases kd2 h with rfl | rfl | rfl | rfl | rfl | rfl <;> rfl
theorem lnP2 {o : Nat} (h : kd o = 2) : ln (o + 2) = 7 := by rcases kd2 h with rfl | rfl | rfl | rfl | rfl | rfl <;> rfl
theorem kdPl_all : ∀ i, i < 6 → kd (38 + 3 * i) = 2 := by decide +kernel
theorem kdPl {i : Int32} (h : inb i 6 = true) : kd (38 + 3 * i.toNatClampNeg) = 2 := kdPl_all _ (inb_lt h)
theorem prG_Pl {i : Int32} (h : inb i 6 = true) : prG (38 + 3 * i.toNatClampNeg) = true := by
  have := inb_lt h
  unfold prG
  simp only [decide_eq_true_eq]
  omega
theorem kdIm_all : ∀ i, i < 2 → kd (8 + 7 * i) = 5 := by decide +kernel
theorem kdIm {i : Int32} (h : inb i 2 = true) : kd (8 + 7 * i.toNatClampNeg) = 5 := kdIm_all _ (inb_lt h)
theorem kdFl_all : ∀ i, i < 2 → kd (57 + 1 * i) = 9 := by decide +kernel
theorem kdFl {i : Int32} (h : inb i 2 = true) : kd (57 + 1 * i.toNatClampNeg) = 9 := kdFl_all _ (inb_lt h)
theorem lnFl_all : ∀ i, i < 2 → ln (57 + 1 * i) = 128 := by decide +kernel
theorem lnFl {i : Int32} (h : inb i 2 = true) : ln (57 + 1 * i.toNatClampNeg) = 128 := lnFl_all _ (inb_lt h)
theorem prG_Fl {i : Int32} (h : inb i 2 = true) : prG (57 + 1 * i.toNatClampNeg) = true := by
  have := inb_lt h
  unfold prG
  simp only [decide_eq_true_eq]
  omega
theorem kdLa_all : ∀ i, i < 2 → kd (60 + 1 * i) = 9 := by decide +kernel
theorem kdLa {i : Int32} (h : inb i 2 = true) : kd (60 + 1 * i.toNatClampNeg) = 9 := kdLa_all _ (inb_lt h)
theorem lnLa_all : ∀ i, i < 2 → ln (60 + 1 * i) = 128 := by decide +kernel
theorem lnLa {i : Int32} (h : inb i 2 = true) : ln (60 + 1 * i.toNatClampNeg) = 128 := lnLa_all _ (inb_lt h)
theorem prG_La {i : Int32} (h : inb i 2 = true) : prG (60 + 1 * i.toNatClampNeg) = true := by
  have := inb_lt h
  unfold prG
  simp only [decide_eq_true_eq]
  omega
section GS
variable {p : Program} {l : Launch} {e : Env} {R : Room} {s : State} {m : MethodId} {args : Array Value} {below : List Frame} {meth : Method} {c : Code} {D : va_G} {cy : Nat → ClassId} {ad : Nat → Nat} {A : Nat → Prop} {L : List Nat} {nL cells slots : Nat} {Q : State → Prop} {cc : ByteArray} {own : String} {pc : Nat} {lv : List (Nat × Value)} {stk : List Value} {st : St}
theorem g_cV (C : Cx p s m args c cc own nL D cy ad A L) {index n d maxL k ci : Nat} {y : MethodName} {bytes : ByteArray} {ret : Option FieldType} {Cn : String} {T : u_T} {N : Nat} {As rest stk2 : List Value} {st' : St} {ov : Option Value} (F : MF y bytes maxL ret n) (ok : clsOk ci (Cn, T, N)) (hy : y.cls = Cn) (hlink : Cond.methodLink own index y ∈ gtb) (hinst : Cond.instanceMethod y ∈ gtb) (hsel : Cond.selects y.cls y y ∈ gtb) (hd : decode cc pc = .ok (.invokevirtual index, 3)) (hk : k ∈ L) (hkd : kd k = ci) (hn : As.length = n) (hs : stk = As.reverse ++ .ref (ad k) :: rest) (h2 : ov.toList ++ rest = stk2) (hR : d + 1 ≤ R.frames ∧ 8 + (maxL + 11) + 40 * d ≤ R.locals) (hrest : (rest.map fun v => v.category).sum ≤ 8) (hcs : cells + 0 ≤ R.cells ∧ slots + 0 ≤ R.slots) (hM : Ct l D cy ad A L y bytes maxL ret d (.ref (ad k) :: As) st ov st')
    (kk : Gm p l e R s m args below meth c D cy ad A L nL cells slots Q (pc + 3) lv stk2 st') : Gm p l e R s m args below meth c D cy ad A L nL cells slots Q pc lv stk st := by
  subst h2
  exact g_callV C F ok hy hlink hinst hsel hd hk hkd hn hs hR hrest hcs hM kk
theorem g_cS (C : Cx p s m args c cc own nL D cy ad A L) {index n d maxL : Nat} {y : MethodName} {bytes : ByteArray} {ret : Option FieldType} {As rest stk2 : List Value} {st' : St} {ov : Option Value} (F : MF y bytes maxL ret n) (hlink : Cond.methodLink own index y ∈ gtb) (hstat : Cond.static y ∈ gtb) (hd : decode cc pc = .ok (.invokestatic index, 3)) (hn : As.length = n) (hs : stk = As.reverse ++ rest) (h2 : ov.toList ++ rest = stk2) (hR : d + 1 ≤ R.frames ∧ 8 + (maxL + 11) + 40 * d ≤ R.locals) (hrest : (rest.map fun v => v.category).sum ≤ 8) (hcs : cells + 0 ≤ R.cells ∧ slots + 0 ≤ R.slots) (hM : Ct l D cy ad A L y bytes maxL ret d As st ov st')
    (kk : Gm p l e R s m args below meth c D cy ad A L nL cells slots Q (pc + 3) lv stk2 st') : Gm p l e R s m args below meth c D cy ad A L nL cells slots Q pc lv stk st := by
  subst h2
  exact g_callS C F hlink hstat hd hn hs hR hrest hcs hM kk
theorem g_zretL (C : Cx p s m args c cc own nL D cy ad A L) {v r : Int32} {st' : St} (hr : meth.sig.returnType = some .boolean) (hlk : meth.locks = false) (hn : narrow .boolean (.int v) = .int v) (hd : decode cc pc = .ok (.ireturn, 1)) (h : some (v, st) = some (r, st')) : Gm p l e R s m args below meth c D cy ad A L nL 0 0 (MQ below (QG D cy ad A L (some (.int r)) st') args s 0 0 A) pc lv [.int v] st := by
  intro H locs ls hP hS hl
  cases h
  exact W.zret C.1 C.2.1 hr hn (fun t ht hW => ⟨rfl, ⟨by rw [ht]; exact hP, va_K.moved hW.alike C.2.2.2.2.2.1, C.2.2.2.2.2.2⟩, hS.F ht⟩) hS.2.2 hd
theorem g_iretP (C : Cx p s m args c cc own nL D cy ad A L) {v r : Int32} (hr : meth.sig.returnType = some .int) (hlk : meth.locks = false) (hd : decode cc pc = .ok (.ireturn, 1)) (h : some v = some r) : Gm p l e R s m args below meth c D cy ad A L nL 0 0 (MQ below (QG D cy ad A L (some (.int r)) st) args s 0 0 A) pc lv [.int v] st := by
  cases h
  exact g_iret C hr hlk hd rfl
theorem g_zretLP (C : Cx p s m args c cc own nL D cy ad A L) {v r : Int32} (hr : meth.sig.returnType = some .boolean) (hlk : meth.locks = false) (hn : narrow .boolean (.int v) = .int v) (hd : decode cc pc = .ok (.ireturn, 1)) (h : some v = some r) : Gm p l e R s m args below meth c D cy ad A L nL 0 0 (MQ below (QG D cy ad A L (some (.int r)) st) args s 0 0 A) pc lv [.int v] st := by
  cases h
  exact g_zretL C hr hlk hn hd rfl
theorem g_zretP (C : Cx p s m args c cc own nL D cy ad A L) {v r : Int32} (hr : meth.sig.returnType = some .boolean) (hlk : meth.locks = false) (hd : decode cc pc = .ok (.ireturn, 1)) (h : ck (decide (narrow .boolean (.int v) = .int v)) (some v) = some r) : Gm p l e R s m args below meth c D cy ad A L nL 0 0 (MQ below (QG D cy ad A L (some (.int r)) st) args s 0 0 A) pc lv [.int v] st := by
  obtain ⟨h1, h⟩ := ck_some h
  cases h
  exact g_zretL C hr hlk (of_decide_eq_true h1) hd rfl
theorem g_lretP (C : Cx p s m args c cc own nL D cy ad A L) {v r : Int64} (hr : meth.sig.returnType = some .long) (hlk : meth.locks = false) (hd : decode cc pc = .ok (.lreturn, 1)) (h : some v = some r) : Gm p l e R s m args below meth c D cy ad A L nL 0 0 (MQ below (QG D cy ad A L (some (.long r)) st) args s 0 0 A) pc lv [.long v] st := by
  cases h
  exact g_lret C hr hlk hd rfl
theorem g_aretC (C : Cx p s m args c cc own nL D cy ad A L) {v : Nat} {st' : St} {rt : FieldType} (hr : meth.sig.returnType = some rt) (hlk : meth.locks = false) (hrt : (∃ n, rt = FieldType.object n) ∨ ∃ t, rt = FieldType.array t) (hd : decode cc pc = .ok (.areturn, 1)) (h : some st = some st') : Gm p l e R s m args below meth c D cy ad A L nL 0 0 (MQ below (QG D cy ad A L (some (.ref (ad v))) st') args s 0 0 A) pc lv [.ref (ad v)] st := by
  cases h
  exact g_aret C hr hlk hrt hd rfl
end GS
