theorem IX.of {st st' : St} (h : IX st) (hk : ∀ k, k < 70 → st' k = st k) : IX st' := by
  obtain ⟨x1, x2, x3, x4, x5, x6, x7, x8, x9⟩ := h
  refine ⟨?_, ?_, ?_, ?_, ?_, ?_, ?_, ?_, ?_⟩
  · rw [hk 0 (by decide)]; exact x1
  · rw [hk 1 (by decide)]; exact x2
  · rw [hk 1 (by decide)]; exact x3
  · rw [hk 6 (by decide), hk 7 (by decide)]; exact x4
  · rw [hk 27 (by decide)]; exact x5
  · rw [hk 34 (by decide)]; exact x6
  · rw [hk 62 (by decide)]; exact x7
  · intro q hq
    rw [hk _ (by omega)]
    exact x8 q hq
  · intro q v hq hv
    rw [hk _ (by omega)]
    exact x9 q v hq hv
set_option maxHeartbeats 4000000 in
set_option maxRecDepth 100000 in
theorem whole_start {p : Program} {e : Env} {s : State} {m : MethodId} {below : List Frame} {meth : Method} {c : Code} (l : Launch) (hflags : l.flags = flags0) {b L : Nat} {xs : Nat → Int32} (hL : L ≤ 2560) (C0 : lw_At p s m meth c b L xs) : W p l e room_1 s m #[Value.ref b] below meth c s.heap [] 0 0 (lw_Z below #[Value.ref b] s) (entryFrame m ([Value.ref b] : List Value).toArray 4) := by
  obtain ⟨hx, hb, hr, hml, hown, hts, hX, hbl, hlocks, hgv⟩ := C0
  obtain ⟨D, cy, hKK⟩ := kk_new hts
  have hbA : ¬ (fun q => s.heap.size ≤ q) b := Nat.not_le.mpr hbl
  have hgt : ∀ w ∈ gtb, w.before #[Value.ref b] s = true := fun w hw => hts w (List.mem_filter.mp hw).1
  have B : Bx p s m #[Value.ref b] meth c cL_law RL 4 D cy (fun q => s.heap.size ≤ q) := ⟨hx, hb, hml, hown, hgt, hKK, fun q h => h⟩
  have key : Gr p l e room_1 s m #[Value.ref b] below meth c D (fun q => s.heap.size ≤ q) 4 (lw_Z below #[Value.ref b] s) 0 0 0 [(0, .ref b)] [] [] := by
    refine r_new B ok7 tyX7 tyX7_ok cl_L_7 it_X7 ini_X7 [.null, .null, .int 0, .null, .null, .null, .null] (by decide) (Nat.le_of_ble_eq_true rfl) (Nat.le_of_ble_eq_true rfl) dL_law_0 (fun q => ?_)
    refine r_dup B dL_law_3 rfl ?_
    refine r_init (av := []) (rest := [.ref q]) B mf_X7_init rfl lk_L_9 in_X7_init dL_law_4 rfl rfl ⟨(Nat.le_of_ble_eq_true rfl), (Nat.le_of_ble_eq_true rfl)⟩ (Nat.le_of_ble_eq_true rfl) ⟨(Nat.le_of_ble_eq_true rfl), (Nat.le_of_ble_eq_true rfl)⟩ mk_X7 (fun u hu => ?_)
    obtain ⟨rfl, hu⟩ := hu
    refine r_astore_n (lv' := [(1, .ref (u.1 0)), (0, .ref b)]) B dL_law_7 rfl (by decide) rfl ?_
    refine r_new B ok8 tyX8 tyX8_ok cl_L_10 it_X8 ini_X8 [.int 0, .null, .null, .null, .null, .null, .null, .null, .null, .null, .null, .null, .int 0, .null, .null, .null, .null, .null, .null, .int 0, .int 0, .null, .null, .null, .null, .null, .int 0, .null, .null] (by decide) (Nat.le_of_ble_eq_true rfl) (Nat.le_of_ble_eq_true rfl) dL_law_8 (fun q => ?_)
    refine r_dup B dL_law_11 rfl ?_
    refine r_init (av := []) (rest := [.ref q]) B mf_X8_init rfl lk_L_12 in_X8_init dL_law_12 rfl rfl ⟨(Nat.le_of_ble_eq_true rfl), (Nat.le_of_ble_eq_true rfl)⟩ (Nat.le_of_ble_eq_true rfl) ⟨(Nat.le_of_ble_eq_true rfl), (Nat.le_of_ble_eq_true rfl)⟩ mk_X8 (fun v hv => ?_)
    obtain ⟨rfl, hv⟩ := hv
    refine r_astore_n (lv' := [(2, .ref (v.1 70)), (1, .ref (u.1 0)), (0, .ref b)]) B dL_law_15 rfl (by decide) rfl ?_
    refine r_iconst (v := (0 : Int32)) B dL_law_16 (by decide) ?_
    refine r_istore_n (lv' := [(3, .int (0 : Int32)), (2, .ref (v.1 70)), (1, .ref (u.1 0)), (0, .ref b)]) B dL_law_17 rfl (by decide) rfl ?_
    refine r_refs (f' := fun i => some ((fun k => if k < 70 then u.1 k else v.1 k) (8 + 7 * i))) 1 (n := 2) rfl (fun i hi => by rcases (show i = 0 ∨ i = 1 by omega) with rfl | rfl <;> rfl) rfl ?_
    refine r_refs (f' := fun i => some ((fun k => if k < 70 then u.1 k else v.1 k) (38 + 3 * i))) 33 (n := 6) rfl (fun i hi => by rcases (show i = 0 ∨ i = 1 ∨ i = 2 ∨ i = 3 ∨ i = 4 ∨ i = 5 by omega) with rfl | rfl | rfl | rfl | rfl | rfl <;> rfl) rfl ?_
    refine r_refs (f' := fun i => some ((fun k => if k < 70 then u.1 k else v.1 k) (57 + 1 * i))) 34 (n := 2) rfl (fun i hi => by rcases (show i = 0 ∨ i = 1 by omega) with rfl | rfl <;> rfl) rfl ?_
    refine r_refs (f' := fun i => some ((fun k => if k < 70 then u.1 k else v.1 k) (60 + 1 * i))) 37 (n := 2) rfl (fun i hi => by rcases (show i = 0 ∨ i = 1 by omega) with rfl | rfl <;> rfl) rfl ?_
    refine r_eq (ws' := wd LAl (fun k => if k < 70 then u.1 k else v.1 k) cy (fun k => if k < 70 then u.2 k else v.2 k)) rfl ?_
    intro H locs ls hP hD hS hl
    have hIX : IX (fun k => if k < 70 then u.2 k else v.2 k) := hu.of (fun k hk => by show (if k < 70 then u.2 k else v.2 k) = u.2 k; rw [if_pos hk])
    have hIM : IM (fun k => if k < 70 then u.2 k else v.2 k) := hv
    exact law_loop ⟨hx, hb, hml, hown, hgt, hKK.1, wd_D hD⟩ hL (Nat.le_of_ble_eq_true rfl) (Nat.le_of_ble_eq_true rfl) hX hbl hbA hr hlocks (L + 1) 0 (fun k => if k < 70 then u.2 k else v.2 k) (by omega) (by omega) (inv_new hIX hIM) H locs ls hP hS hl
  have hl := lv_entry ([.ref b]) (n := 4) (Nat.le_of_ble_eq_true rfl)
  rw [lg_entry_eq]
  exact key s.heap [] _ (fun k q h => by simp at h) ⟨fun i j x y h => by simp at h, fun k q h => by simp at h⟩ va_S.rf hl
