set_option maxRecDepth 100000 in
theorem kk_new {s : State} {args : Array Value} (hts : ∀ w ∈ lw_tbl, w.before args s = true) : ∃ (D : va_G) (cy : Nat → ClassId), KK D cy s := by
  obtain ⟨c0, i0, k0⟩ := u_known (C := RX0) (T := TX0) (N := 6) (n := 6) (fun w (hw : w ∈ gtb) => hts w (List.mem_filter.mp hw).1) inX0 (hts (.instantiable RX0 6) (List.mem_filter.mp it_X0).1)
  obtain ⟨c1, i1, k1⟩ := u_known (C := RX1) (T := TX1) (N := 7) (n := 7) (fun w (hw : w ∈ gtb) => hts w (List.mem_filter.mp hw).1) inX1 (hts (.instantiable RX1 7) (List.mem_filter.mp it_X1).1)
  obtain ⟨c2, i2, k2⟩ := u_known (C := RX2) (T := TX2) (N := 6) (n := 6) (fun w (hw : w ∈ gtb) => hts w (List.mem_filter.mp hw).1) inX2 (hts (.instantiable RX2 6) (List.mem_filter.mp it_X2).1)
  obtain ⟨c3, i3, k3⟩ := u_known (C := RX3) (T := TX3) (N := 16) (n := 16) (fun w (hw : w ∈ gtb) => hts w (List.mem_filter.mp hw).1) inX3 (hts (.instantiable RX3 16) (List.mem_filter.mp it_X3).1)
  obtain ⟨c4, i4, k4⟩ := u_known (C := RX4) (T := TX4) (N := 2) (n := 2) (fun w (hw : w ∈ gtb) => hts w (List.mem_filter.mp hw).1) inX4 (hts (.instantiable RX4 2) (List.mem_filter.mp it_X4).1)
  obtain ⟨c5, i5, k5⟩ := u_known (C := RX5) (T := TX5) (N := 8) (n := 8) (fun w (hw : w ∈ gtb) => hts w (List.mem_filter.mp hw).1) inX5 (hts (.instantiable RX5 8) (List.mem_filter.mp it_X5).1)
  obtain ⟨c6, i6, k6⟩ := u_known (C := RX6) (T := TX6) (N := 10) (n := 10) (fun w (hw : w ∈ gtb) => hts w (List.mem_filter.mp hw).1) inX6 (hts (.instantiable RX6 10) (List.mem_filter.mp it_X6).1)
  obtain ⟨c7, i7, k7⟩ := u_known (C := RX7) (T := TX7) (N := 7) (n := 7) (fun w (hw : w ∈ gtb) => hts w (List.mem_filter.mp hw).1) inX7 (hts (.instantiable RX7 7) (List.mem_filter.mp it_X7).1)
  obtain ⟨c8, i8, k8⟩ := u_known (C := RX8) (T := TX8) (N := 29) (n := 29) (fun w (hw : w ∈ gtb) => hts w (List.mem_filter.mp hw).1) inX8 (hts (.instantiable RX8 29) (List.mem_filter.mp it_X8).1)
  obtain ⟨a9, t9, p9, f9, g9, e9⟩ := Cond.arrayClass_spec (hts (.arrayClass .int) (List.mem_filter.mp aw_int).1)
  obtain ⟨a10, t10, p10, f10, g10, e10⟩ := Cond.arrayClass_spec (hts (.arrayClass .boolean) (List.mem_filter.mp aw_bool).1)
  have wP := hts (.arrayOver (.object "StepRegisters$Plan")) (nst_in _ 187 (by decide +kernel))
  have wS := hts (.arrayOver (.object "StepRegisters$State")) (nst_in _ 115 (by decide +kernel))
  obtain ⟨q11, a11, t11, f11, -, g11, e11, n11⟩ := Cond.arrayOver_spec wP
  obtain ⟨q12, a12, t12, f12, -, g12, e12, n12⟩ := Cond.arrayOver_spec wS
  obtain ⟨q13, a13, t13, f13, -, g13, e13, n13⟩ := arrayOverA_spec (hts (.arrayOver (.array .int)) (nst_in _ 189 (by decide +kernel)))
  have e913 : q13 = a9 := Option.some.inj (f13.symm.trans f9)
  subst e913
  refine ⟨(fun k => [c0, c1, c2, c3, c4, c5, c6, c7, c8].getD k 0, fun k => ([i0, i1, i2, i3, i4, i5, i6, i7, i8] : List (Nat → Nat)).getD k (fun _ => 0)), fun k => [q13, a10, a11, a12, a13].getD (k - 9) 0, ⟨?_, ?_⟩, va_AO.of wS, va_AO.of wP, ⟨t13, g13, e13⟩, va_Nw.of rfl (hts _ (nst_in _ 118 (by decide +kernel))), va_Nw.of rfl (hts _ (nst_in _ 133 (by decide +kernel))), va_Nw.of rfl (hts _ (nst_in _ 223 (by decide +kernel))), va_Nw.of rfl (hts _ (nst_in _ 309 (by decide +kernel)))⟩
  · intro k q hq
    match k, hq with
    | 0, hq => cases hq; exact k0
    | 1, hq => cases hq; exact k1
    | 2, hq => cases hq; exact k2
    | 3, hq => cases hq; exact k3
    | 4, hq => cases hq; exact k4
    | 5, hq => cases hq; exact k5
    | 6, hq => cases hq; exact k6
    | 7, hq => cases hq; exact k7
    | 8, hq => cases hq; exact k8
    | k + 9, hq => simp [classes] at hq
  · intro k q hq
    match k, hq with
    | 0, hq => cases hq; exact ⟨fun n z => ⟨fun k h => (by cases h), t9, g9, p9, e9⟩, f9⟩
    | 1, hq => cases hq; exact ⟨fun n z => ⟨fun k h => (by cases h), t10, g10, p10, e10⟩, f10⟩
    | 2, hq => cases hq; exact ⟨fun n z => ⟨fun k h => (by cases h), t11, g11, q11, e11⟩, t11, q11, g11, e11, f11, n11⟩
    | 3, hq => cases hq; exact ⟨fun n z => ⟨fun k h => (by cases h), t12, g12, q12, e12⟩, t12, q12, g12, e12, f12, n12⟩
    | 4, hq => cases hq; exact ⟨fun n z => ⟨fun k h => (by cases h), t13, g13, q13, e13⟩, n13⟩
    | k + 5, hq => simp [tys] at hq
