abbrev St : Type := Nat → Nat → Int32
def kdL : List Nat := [7, 5, 9, 9, 9, 9, 9, 9, 5, 9, 9, 9, 9, 9, 9, 5, 9, 9, 9, 9, 9, 9, 12, 4, 9, 6, 9, 9, 9, 9, 9, 9, 3, 1, 9, 9, 9, 11, 2, 9, 9, 2, 9, 9, 2, 9, 9, 2, 9, 9, 2, 9, 9, 2, 9, 9, 13, 9, 9, 13, 9, 9, 9, 9, 9, 0, 10, 9, 9, 9, 8, 9, 9, 9, 9, 9, 9, 10, 10, 9, 9, 9, 9, 9, 9, 9, 9, 9, 9, 10, 10, 9, 9, 9, 10]
def lnL : List Nat := [0, 0, 10, 10, 10, 10, 7, 7, 0, 10, 10, 10, 10, 7, 7, 0, 10, 10, 10, 10, 7, 7, 2, 0, 30, 0, 49, 64, 20, 20, 20, 8, 0, 0, 8, 7, 7, 6, 0, 7, 7, 0, 7, 7, 0, 7, 7, 0, 7, 7, 0, 7, 7, 0, 7, 7, 2, 128, 128, 2, 128, 128, 3, 3, 7, 0, 49, 49, 7, 7, 0, 10, 10, 10, 10, 7, 7, 7, 2, 30, 7, 88, 256, 1792, 7, 7, 7, 3, 49, 49, 49, 7, 7, 124, 2]
def kd (k : Nat) : Nat := kdL.getD k 99
def ln (k : Nat) : Nat := lnL.getD k 0
def rfL : List (List (Option (Bool × Nat))) := [[some (true, 1), some (true, 2), some (true, 3), some (true, 4), none, none], [some (false, 25), some (true, 1), some (true, 2), some (true, 3), none, none, none], [none, none, none, none, some (true, 1), some (true, 2)], [some (false, 1), some (false, 25), some (false, 33), some (false, 37), some (false, 56), some (false, 59), some (false, 62), some (false, 63), some (false, 64), none, none, none, none, none, none, none], [some (true, 1), none], [none, some (true, 1), some (true, 2), some (true, 3), some (true, 4), none, some (true, 5), some (true, 6)], [some (true, 1), some (true, 2), some (true, 3), some (true, 4), some (true, 5), some (true, 6), none, none, none, none], [some (false, 1), some (false, 22), none, some (false, 23), some (false, 25), some (false, 32), some (false, 65)], [none, some (true, 1), some (true, 2), some (true, 3), some (true, 4), some (true, 5), some (true, 6), some (true, 7), some (true, 8), some (true, 9), some (true, 10), some (true, 11), none, some (true, 12), some (true, 13), some (true, 14), some (true, 15), some (true, 16), some (true, 17), none, none, some (true, 18), some (true, 19), some (true, 20), some (true, 21), some (true, 22), none, some (true, 23), some (true, 24)]]
def rf (c j : Nat) : Option (Bool × Nat) := (rfL.getD c []).getD j none
def ro (k j : Nat) : Nat := match rf (kd k) j with
  | none => 0
  | some q => if q.1 then k + q.2 else q.2
def raB (k : Nat) : Nat × Nat := if k = 22 then (8, 7) else if k = 37 then (38, 3) else if k = 56 then (57, 1) else if k = 59 then (60, 1) else (0, 0)
def nfL : List Nat := [6, 7, 6, 16, 2, 8, 10, 7, 29]
abbrev classes : List vw_C := [(RX0, TX0, 6), (RX1, TX1, 7), (RX2, TX2, 6), (RX3, TX3, 16), (RX4, TX4, 2), (RX5, TX5, 8), (RX6, TX6, 10), (RX7, TX7, 7), (RX8, TX8, 29)]
def fv (ad : Nat → Nat) (st : St) (k j : Nat) : Value := match rf (kd k) j with
  | none => .int (st k j)
  | some q => .ref (ad (if q.1 then k + q.2 else q.2))
def fs (ad : Nat → Nat) (st : St) (k : Nat) : List Value := (List.range (nfL.getD (kd k) 0)).map (fv ad st k)
def ce (ad : Nat → Nat) (cy : Nat → ClassId) (st : St) (k : Nat) : va_E :=
  if kd k < 9 then .inr (kd k, fs ad st k)
  else if kd k < 11 then .inl (cy (kd k), ln k, .inl (st k))
  else .inl (cy (kd k), ln k, .inr (.inr (.inr (.inr (fun i => some (ad ((raB k).1 + (raB k).2 * i)))))))
def tys (cy : Nat → ClassId) : List (ClassId × FieldType) := [(cy 9, .int), (cy 10, .boolean), (cy 11, .object "StepRegisters$Plan"), (cy 12, .object "StepRegisters$State"), (cy 13, .array .int)]
def wd (L : List Nat) (ad : Nat → Nat) (cy : Nat → ClassId) (st : St) : va_W := L.map (fun k => (ad k, ce ad cy st k))
def up (st : St) (k i : Nat) (v : Int32) : St := fun a => if a = k then upd (st a) i v else st a
/-- an array's row as a whole -/
def upr (st : St) (k : Nat) (f : Nat → Int32) : St := fun a => if a = k then f else st a
def lt {α β : Type} (v : α) (k : α → β) : β := k v
def ck {α : Type} (c : Bool) (x : Option α) : Option α := if c then x else none
def bd {α β γ : Type} (x : Option (α × β)) (k : α → β → Option γ) : Option γ := match x with
  | none => none
  | some p => k p.1 p.2
def bs {β γ : Type} (x : Option β) (k : β → Option γ) : Option γ := match x with
  | none => none
  | some p => k p
def inb (i : Int32) (n : Nat) : Bool := !(decide (i < 0) || decide (n ≤ i.toNatClampNeg))
theorem inb_in {i : Int32} {n : Nat} (h : inb i n = true) : vp_in i n := by
  unfold inb at h
  unfold vp_in
  simpa using h
theorem ck_some {α : Type} {c : Bool} {x : Option α} {r : α} (h : ck c x = some r) : c = true ∧ x = some r := by
  unfold ck at h
  cases c with
  | true => exact ⟨rfl, h⟩
  | false => cases h
theorem bd_some {α β γ : Type} {x : Option (α × β)} {k : α → β → Option γ} {r : γ} (h : bd x k = some r) : ∃ a b, x = some (a, b) ∧ k a b = some r := by
  unfold bd at h
  cases x with
  | none => cases h
  | some p => exact ⟨p.1, p.2, rfl, h⟩
theorem bs_some {β γ : Type} {x : Option β} {k : β → Option γ} {r : γ} (h : bs x k = some r) : ∃ b, x = some b ∧ k b = some r := by
  unfold bs at h
  cases x with
  | none => cases h
  | some p => exact ⟨p, rfl, h⟩
theorem fs_at {ad : Nat → Nat} {st : St} {k ci j N : Nat} (hkd : kd k = ci) (hn : nfL.getD ci 0 = N) (hj : j < N) : (fs ad st k)[j]? = some (fv ad st k j) := by
  unfold fs
  rw [List.getElem?_map, List.getElem?_range (by rw [hkd, hn]; exact hj)]
  rfl
theorem fv_int {ad : Nat → Nat} {st : St} {k ci j : Nat} (hkd : kd k = ci) (hrf : rf ci j = none) : fv ad st k j = .int (st k j) := by
  unfold fv
  rw [hkd, hrf]
theorem fv_ref {ad : Nat → Nat} {st : St} {k ci j d : Nat} {b : Bool} (hkd : kd k = ci) (hrf : rf ci j = some (b, d)) : fv ad st k j = .ref (ad (if b then k + d else d)) := by
  unfold fv
  rw [hkd, hrf]
theorem ce_obj {ad : Nat → Nat} {cy : Nat → ClassId} {st : St} {k ci : Nat} (hkd : kd k = ci) (h9 : ci < 9) : ce ad cy st k = .inr (ci, fs ad st k) := by
  unfold ce
  rw [if_pos (by rw [hkd]; exact h9), hkd]
theorem ce_int {ad : Nat → Nat} {cy : Nat → ClassId} {st : St} {k : Nat} (hkd : kd k = 9) : ce ad cy st k = .inl (cy 9, ln k, .inl (st k)) := by
  unfold ce
  rw [hkd]
  rfl
theorem ce_bool {ad : Nat → Nat} {cy : Nat → ClassId} {st : St} {k : Nat} (hkd : kd k = 10) : ce ad cy st k = .inl (cy 10, ln k, .inl (st k)) := by
  unfold ce
  rw [hkd]
  rfl
theorem ce_refs {ad : Nat → Nat} {cy : Nat → ClassId} {st : St} {k ci : Nat} (hkd : kd k = ci) (h : 11 ≤ ci) : ce ad cy st k = .inl (cy ci, ln k, .inr (.inr (.inr (.inr (fun i => some (ad ((raB k).1 + (raB k).2 * i))))))) := by
  unfold ce
  rw [if_neg (by omega), if_neg (by omega), hkd]
theorem wd_get {L : List Nat} {ad : Nat → Nat} {cy : Nat → ClassId} {st : St} {q k : Nat} (h : L[q]? = some k) : (wd L ad cy st)[q]? = some (ad k, ce ad cy st k) := by
  unfold wd
  rw [List.getElem?_map, h]
  rfl
theorem wd_inv {L : List Nat} {ad : Nat → Nat} {cy : Nat → ClassId} {st : St} {q : Nat} {x : Nat × va_E} (h : (wd L ad cy st)[q]? = some x) : ∃ k, L[q]? = some k ∧ x = (ad k, ce ad cy st k) := by
  unfold wd at h
  rw [List.getElem?_map] at h
  cases hq : L[q]? with
  | none => rw [hq] at h; cases h
  | some k => rw [hq] at h; exact ⟨k, rfl, (Option.some.inj h).symm⟩
theorem wd_D {A : Nat → Prop} {L : List Nat} {ad : Nat → Nat} {cy : Nat → ClassId} {st st' : St} (h : va_D A (wd L ad cy st)) : va_D A (wd L ad cy st') := by
  refine ⟨fun i j p q hi hj hpq => ?_, fun k q hk => ?_⟩
  · obtain ⟨a, ha, rfl⟩ := wd_inv hi
    obtain ⟨b, hb, rfl⟩ := wd_inv hj
    exact h.1 i j _ _ (wd_get ha) (wd_get hb) hpq
  · obtain ⟨a, ha, rfl⟩ := wd_inv hk
    exact h.2 k (ad a, ce ad cy st a) (wd_get ha)
theorem wd_set {A : Nat → Prop} {L : List Nat} {ad : Nat → Nat} {cy : Nat → ClassId} {st st' : St} {q k : Nat} {e : va_E} (hD : va_D A (wd L ad cy st)) (hq : L[q]? = some k) (he : ce ad cy st' k = e) (ho : ∀ j, j ≠ k → ce ad cy st' j = ce ad cy st j) : (wd L ad cy st).set q (ad k, e) = wd L ad cy st' := by
  apply List.ext_getElem?
  intro i
  rw [List.getElem?_set]
  have hl : q < (wd L ad cy st).length := (List.getElem?_eq_some_iff.mp (wd_get (ad := ad) (cy := cy) (st := st) hq)).1
  by_cases hi : q = i
  · subst hi
    rw [if_pos rfl, if_pos hl, wd_get hq, he]
  · rw [if_neg hi]
    cases hL : L[i]? with
    | none =>
      unfold wd
      rw [List.getElem?_map, List.getElem?_map, hL]
      rfl
    | some j =>
      rw [wd_get hL, wd_get hL, ho]
      intro hjk
      subst hjk
      exact hi (hD.1 q i _ _ (wd_get hq) (wd_get hL) rfl)
theorem up_at {st : St} {k i : Nat} {v : Int32} : up st k i v k = upd (st k) i v := by simp [up]
theorem up_ne {st : St} {k i j : Nat} {v : Int32} (h : j ≠ k) : up st k i v j = st j := by simp [up, h]
theorem upr_at {st : St} {k : Nat} {f : Nat → Int32} : upr st k f k = f := by simp [upr]
theorem upr_ne {st : St} {k j : Nat} {f : Nat → Int32} (h : j ≠ k) : upr st k f j = st j := by simp [upr, h]
theorem ce_ne {ad : Nat → Nat} {cy : Nat → ClassId} {st st' : St} {j : Nat} (h : st' j = st j) : ce ad cy st' j = ce ad cy st j := by
  unfold ce fs
  have e : fv ad st' j = fv ad st j := by
    funext i
    unfold fv
    rw [h]
  rw [e, h]
theorem fs_set {ad : Nat → Nat} {st : St} {k ci j N : Nat} {v : Int32} (hkd : kd k = ci) (hn : nfL.getD ci 0 = N) (hj : j < N) (hrf : rf ci j = none) : fs ad (up st k j v) k = (fs ad st k).set j (.int v) := by
  apply List.ext_getElem?
  intro i
  rw [List.getElem?_set]
  have hl : j < (fs ad st k).length := by unfold fs; rw [List.length_map, List.length_range, hkd, hn]; exact hj
  by_cases hi : j = i
  · subst hi
    rw [if_pos rfl, if_pos hl, fs_at hkd hn hj, fv_int hkd hrf, up_at]
    simp [upd]
  · rw [if_neg hi]
    unfold fs
    rw [List.getElem?_map, List.getElem?_map]
    cases hr : (List.range (nfL.getD (kd k) 0))[i]? with
    | none => rfl
    | some i' =>
      have hi' : i' = i := by
        have := List.getElem?_eq_some_iff.mp hr
        obtain ⟨h1, h2⟩ := this
        rw [List.getElem_range] at h2
        exact h2.symm
      subst hi'
      show some (fv ad (up st k j v) k i') = some (fv ad st k i')
      unfold fv
      rw [up_at]
      simp [upd, Ne.symm hi]
/-- the tables' words that stay at every call -/
def gtb : List Cond := lw_tbl.filter goodWord
def wsy (y : MethodName) (cc : ByteArray) (n : Nat) (ret : Option FieldType) : List Cond := .code y cc n ret :: gtb
def rmD (d : Nat) : Room := { frames := d, cells := 0, slots := 0, locals := 40 * d }
def Wld (D : va_G) (cy : Nat → ClassId) (ad : Nat → Nat) (A : Nat → Prop) (L : List Nat) (st : St) (U : State) : Prop := va_P D classes (wd L ad cy st) U.heap ∧ va_K D classes (tys cy) U ∧ va_D A (wd L ad cy (fun _ _ => 0))
def QG (D : va_G) (cy : Nat → ClassId) (ad : Nat → Nat) (A : Nat → Prop) (L : List Nat) (ov : Option Value) (st' : St) : Array Value → State → Outcome → State → Prop := fun _ s o t => o = .returned ov ∧ Wld D cy ad A L st' t ∧ va_F A s t
/-- method y's contract over the whole world: from st, with these arguments, it answers ov and leaves st' -/
def Ct (l : Launch) (D : va_G) (cy : Nat → ClassId) (ad : Nat → Nat) (A : Nat → Prop) (L : List Nat) (y : MethodName) (cc : ByteArray) (n : Nat) (ret : Option FieldType) (d : Nat) (av : List Value) (st : St) (ov : Option Value) (st' : St) : Prop := Met l y (wsy y cc n ret) (rmD d) (va_Pc av (Wld D cy ad A L st)) (QG D cy ad A L ov st') 0 0 A
def Cx (p : Program) (s : State) (m : MethodId) (args : Array Value) (c : Code) (cc : ByteArray) (own : String) (nL : Nat) (D : va_G) (cy : Nat → ClassId) (ad : Nat → Nat) (A : Nat → Prop) (L : List Nat) : Prop := p.tables.exec = Jvm.exec ∧ c.code = cc ∧ c.maxLocals = nL ∧ s.vm.findClass own = some m.cls ∧ (∀ w ∈ gtb, w.before args s = true) ∧ va_K D classes (tys cy) s ∧ va_D A (wd L ad cy (fun _ _ => 0))
/-- from pc, these locals, this stack, this state of the world, the machine comes to Q -/
def Gm (p : Program) (l : Launch) (e : Env) (R : Room) (s : State) (m : MethodId) (args : Array Value) (below : List Frame) (meth : Method) (c : Code) (D : va_G) (cy : Nat → ClassId) (ad : Nat → Nat) (A : Nat → Prop) (L : List Nat) (nL cells slots : Nat) (Q : State → Prop) (pc : Nat) (lv : List (Nat × Value)) (stk : List Value) (st : St) : Prop :=
  ∀ (H : Heap) (locs : List Loc) (ls : Array Slot), va_P D classes (wd L ad cy st) H → va_S A s.heap H locs → lv_has ls nL lv → W p l e R s m args below meth c H locs cells slots Q (F0 m pc ls stk)
theorem tbl_in {w : Cond} (h : w ∈ gtb) : w ∈ gtb ∧ ((w.onTables && w.keeps) = true ∨ ∃ ty, w = .arrayClass ty) := ⟨h, good_of_word (List.mem_filter.mp h).2⟩
theorem gtb_of {w : Cond} (i : Nat) (h : lw_tbl[i]? = some w) (hg : goodWord w = true) : w ∈ gtb := List.mem_filter.mpr ⟨List.mem_of_getElem? h, hg⟩
theorem wsy_good {y : MethodName} {cc : ByteArray} {n : Nat} {ret : Option FieldType} (h : Cond.code y cc n ret ∈ gtb) : GoodIn gtb (wsy y cc n ret) := by
  intro w hw
  rcases List.mem_cons.mp hw with rfl | hw
  · exact tbl_in h
  · exact tbl_in hw
set_option maxRecDepth 100000 in
theorem inX0 : ∀ w ∈ wsX00, w ∈ gtb := by decide +kernel
set_option maxRecDepth 100000 in
theorem inX1 : ∀ w ∈ wsX10, w ∈ gtb := by decide +kernel
set_option maxRecDepth 100000 in
theorem inX2 : ∀ w ∈ wsX20, w ∈ gtb := by decide +kernel
set_option maxRecDepth 100000 in
theorem inX3 : ∀ w ∈ wsX30, w ∈ gtb := by decide +kernel
set_option maxRecDepth 100000 in
theorem inX4 : ∀ w ∈ wsX40, w ∈ gtb := by decide +kernel
set_option maxRecDepth 100000 in
theorem inX5 : ∀ w ∈ wsX50, w ∈ gtb := by decide +kernel
set_option maxRecDepth 100000 in
theorem inX6 : ∀ w ∈ wsX60, w ∈ gtb := by decide +kernel
set_option maxRecDepth 100000 in
theorem inX7 : ∀ w ∈ wsX70, w ∈ gtb := by decide +kernel
set_option maxRecDepth 100000 in
theorem inX8 : ∀ w ∈ wsX80, w ∈ gtb := by decide +kernel
/-- what every class of the world has -/
def clsOk (ci : Nat) (q : vw_C) : Prop := classes[ci]? = some q ∧ ci < 9 ∧ nfL.getD ci 0 = q.2.2 ∧ (∀ w ∈ u_ws q.1 q.2.1 q.2.2, w ∈ gtb) ∧ ∃ ty0 : Nat → FieldType, (∀ k, k < q.2.2 → parseFieldDescriptor (q.2.1 k).2.2.1 = some (ty0 k)) ∧ (∀ a, a < q.2.2 → ∀ b, b < q.2.2 → a ≠ b → (q.2.1 a).2.1 ≠ (q.2.1 b).2.1)
theorem ok0 : clsOk 0 (RX0, TX0, 6) := ⟨rfl, by decide, rfl, inX0, tyX0, tyX0_ok, nmX0⟩
theorem ok1 : clsOk 1 (RX1, TX1, 7) := ⟨rfl, by decide, rfl, inX1, tyX1, tyX1_ok, nmX1⟩
theorem ok2 : clsOk 2 (RX2, TX2, 6) := ⟨rfl, by decide, rfl, inX2, tyX2, tyX2_ok, nmX2⟩
theorem ok3 : clsOk 3 (RX3, TX3, 16) := ⟨rfl, by decide, rfl, inX3, tyX3, tyX3_ok, nmX3⟩
theorem ok4 : clsOk 4 (RX4, TX4, 2) := ⟨rfl, by decide, rfl, inX4, tyX4, tyX4_ok, nmX4⟩
theorem ok5 : clsOk 5 (RX5, TX5, 8) := ⟨rfl, by decide, rfl, inX5, tyX5, tyX5_ok, nmX5⟩
theorem ok6 : clsOk 6 (RX6, TX6, 10) := ⟨rfl, by decide, rfl, inX6, tyX6, tyX6_ok, nmX6⟩
theorem ok7 : clsOk 7 (RX7, TX7, 7) := ⟨rfl, by decide, rfl, inX7, tyX7, tyX7_ok, nmX7⟩
theorem ok8 : clsOk 8 (RX8, TX8, 29) := ⟨rfl, by decide, rfl, inX8, tyX8, tyX8_ok, nmX8⟩
