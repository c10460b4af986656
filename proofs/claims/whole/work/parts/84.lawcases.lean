set_option maxHeartbeats 4000000 in
set_option maxRecDepth 100000 in
/-- the law at put -/
theorem law_put {p : Program} {l : Launch} {e : Env} {s : State} {m : MethodId} {below : List Frame} {meth : Method} {c : Code} {D : va_G} {cy : Nat → ClassId} {ad : Nat → Nat} {cells slots b Lz : Nat} {xs : Nat → Int32} (C : Cx p s m #[Value.ref b] c cL_law RL 4 D cy ad (fun q => s.heap.size ≤ q) LAl) (hLz : Lz ≤ 2560) (hcells : cells ≤ 600000) (hslots : slots ≤ 7302250) (hX : va_X b Lz xs s s.heap) (hbl : b < s.heap.size) (hbA : ¬ (fun q => s.heap.size ≤ q) b) {k : Nat} (h5 : 5 * k + 5 ≤ Lz) {st : St} (hI : Inv st) (hend : ∀ st : St, Inv st → Gm p l e room_1 s m #[Value.ref b] below meth c D cy ad (fun q => s.heap.size ≤ q) LAl 4 cells slots (lw_Z below #[Value.ref b] s) 742 [(3, .int (nI (5 * k))), (2, .ref (ad 70)), (1, .ref (ad 0)), (0, .ref b)] [] st) : Gm p l e room_1 s m #[Value.ref b] below meth c D cy ad (fun q => s.heap.size ≤ q) LAl 4 cells slots (lw_Z below #[Value.ref b] s) 124 [(3, .int (nI (5 * k))), (2, .ref (ad 70)), (1, .ref (ad 0)), (0, .ref b)] [] st := by
  obtain ⟨r, s1, s2, o1, o2, o3⟩ := ok_put (N := 6000) (by decide) hI (xs (5 * k + 1)) (xs (5 * k + 2)) (xs (5 * k + 3)) (xs (5 * k + 4))
  refine g_aload_n C dL_law_124 rfl 2 rfl ?_
  refine l_ld C hX hbl hbA (n := 1) (v := (1 : Int32)) (by omega) hLz rfl (by decide) 3 0 rfl rfl dL_law_125 dL_law_126 dL_law_127 dL_law_128 dL_law_129 ?_
  refine l_ld C hX hbl hbA (n := 2) (v := (2 : Int32)) (by omega) hLz rfl (by decide) 3 0 rfl rfl dL_law_130 dL_law_131 dL_law_132 dL_law_133 dL_law_134 ?_
  refine l_ld C hX hbl hbA (n := 3) (v := (3 : Int32)) (by omega) hLz rfl (by decide) 3 0 rfl rfl dL_law_135 dL_law_136 dL_law_137 dL_law_138 dL_law_139 ?_
  refine l_ld C hX hbl hbA (n := 4) (v := (4 : Int32)) (by omega) hLz rfl (by decide) 3 0 rfl rfl dL_law_140 dL_law_141 dL_law_142 dL_law_143 dL_law_144 ?_
  refine g_cV (As := [.int (xs (5 * k + 1)), .int (xs (5 * k + 2)), .int (xs (5 * k + 3)), .int (xs (5 * k + 4))]) (rest := []) (stk2 := [.int r]) C mf_X7_put ok7 rfl lk_L_13 in_X7_put se_X7_put dL_law_145 (prF_LAl 0 rfl) rfl rfl rfl rfl ⟨(Nat.le_of_ble_eq_true rfl), (Nat.le_of_ble_eq_true rfl)⟩ (Nat.le_of_ble_eq_true rfl) ⟨hcells, hslots⟩ (ct_X7_put prF_LAl o1) ?_
  refine g_aload_n C dL_law_148 rfl 1 rfl ?_
  refine l_ld C hX hbl hbA (n := 1) (v := (1 : Int32)) (by omega) hLz rfl (by decide) 3 0 rfl rfl dL_law_149 dL_law_150 dL_law_151 dL_law_152 dL_law_153 ?_
  refine l_ld C hX hbl hbA (n := 2) (v := (2 : Int32)) (by omega) hLz rfl (by decide) 3 0 rfl rfl dL_law_154 dL_law_155 dL_law_156 dL_law_157 dL_law_158 ?_
  refine l_ld C hX hbl hbA (n := 3) (v := (3 : Int32)) (by omega) hLz rfl (by decide) 3 0 rfl rfl dL_law_159 dL_law_160 dL_law_161 dL_law_162 dL_law_163 ?_
  refine l_ld C hX hbl hbA (n := 4) (v := (4 : Int32)) (by omega) hLz rfl (by decide) 3 0 rfl rfl dL_law_164 dL_law_165 dL_law_166 dL_law_167 dL_law_168 ?_
  refine g_cV (As := [.int (xs (5 * k + 1)), .int (xs (5 * k + 2)), .int (xs (5 * k + 3)), .int (xs (5 * k + 4))]) (rest := [.int r]) (stk2 := [.int r, .int r]) C mf_X8_put ok8 rfl lk_L_17 in_X8_put se_X8_put dL_law_169 (prF_LAl 70 rfl) rfl rfl rfl rfl ⟨(Nat.le_of_ble_eq_true rfl), (Nat.le_of_ble_eq_true rfl)⟩ (Nat.le_of_ble_eq_true rfl) ⟨hcells, hslots⟩ (ct_X8_put prF_LAl o2) ?_
  refine l_eqT (tgt := 742) C dL_law_172 (by decide) ?_
  exact hend _ o3
set_option maxHeartbeats 4000000 in
set_option maxRecDepth 100000 in
/-- the law at drop -/
theorem law_drop {p : Program} {l : Launch} {e : Env} {s : State} {m : MethodId} {below : List Frame} {meth : Method} {c : Code} {D : va_G} {cy : Nat → ClassId} {ad : Nat → Nat} {cells slots b Lz : Nat} {xs : Nat → Int32} (C : Cx p s m #[Value.ref b] c cL_law RL 4 D cy ad (fun q => s.heap.size ≤ q) LAl) (hLz : Lz ≤ 2560) (hcells : cells ≤ 600000) (hslots : slots ≤ 7302250) (hX : va_X b Lz xs s s.heap) (hbl : b < s.heap.size) (hbA : ¬ (fun q => s.heap.size ≤ q) b) {k : Nat} (h5 : 5 * k + 5 ≤ Lz) {st : St} (hI : Inv st) (hend : ∀ st : St, Inv st → Gm p l e room_1 s m #[Value.ref b] below meth c D cy ad (fun q => s.heap.size ≤ q) LAl 4 cells slots (lw_Z below #[Value.ref b] s) 742 [(3, .int (nI (5 * k))), (2, .ref (ad 70)), (1, .ref (ad 0)), (0, .ref b)] [] st) : Gm p l e room_1 s m #[Value.ref b] below meth c D cy ad (fun q => s.heap.size ≤ q) LAl 4 cells slots (lw_Z below #[Value.ref b] s) 177 [(3, .int (nI (5 * k))), (2, .ref (ad 70)), (1, .ref (ad 0)), (0, .ref b)] [] st := by
  obtain ⟨r, s1, s2, o1, o2, o3⟩ := ok_drop (N := 6000) (by decide) hI (xs (5 * k + 1))
  refine g_aload_n C dL_law_177 rfl 2 rfl ?_
  refine l_ld C hX hbl hbA (n := 1) (v := (1 : Int32)) (by omega) hLz rfl (by decide) 3 0 rfl rfl dL_law_178 dL_law_179 dL_law_180 dL_law_181 dL_law_182 ?_
  refine g_cV (As := [.int (xs (5 * k + 1))]) (rest := []) (stk2 := [.int r]) C mf_X7_drop ok7 rfl lk_L_18 in_X7_drop se_X7_drop dL_law_183 (prF_LAl 0 rfl) rfl rfl rfl rfl ⟨(Nat.le_of_ble_eq_true rfl), (Nat.le_of_ble_eq_true rfl)⟩ (Nat.le_of_ble_eq_true rfl) ⟨hcells, hslots⟩ (ct_X7_drop prF_LAl o1) ?_
  refine g_aload_n C dL_law_186 rfl 1 rfl ?_
  refine l_ld C hX hbl hbA (n := 1) (v := (1 : Int32)) (by omega) hLz rfl (by decide) 3 0 rfl rfl dL_law_187 dL_law_188 dL_law_189 dL_law_190 dL_law_191 ?_
  refine g_cV (As := [.int (xs (5 * k + 1))]) (rest := [.int r]) (stk2 := [.int r, .int r]) C mf_X8_drop ok8 rfl lk_L_22 in_X8_drop se_X8_drop dL_law_192 (prF_LAl 70 rfl) rfl rfl rfl rfl ⟨(Nat.le_of_ble_eq_true rfl), (Nat.le_of_ble_eq_true rfl)⟩ (Nat.le_of_ble_eq_true rfl) ⟨hcells, hslots⟩ (ct_X8_drop prF_LAl o2) ?_
  refine l_eqT (tgt := 742) C dL_law_195 (by decide) ?_
  exact hend _ o3
set_option maxHeartbeats 4000000 in
set_option maxRecDepth 100000 in
/-- the law at cross -/
theorem law_cross {p : Program} {l : Launch} {e : Env} {s : State} {m : MethodId} {below : List Frame} {meth : Method} {c : Code} {D : va_G} {cy : Nat → ClassId} {ad : Nat → Nat} {cells slots b Lz : Nat} {xs : Nat → Int32} (C : Cx p s m #[Value.ref b] c cL_law RL 4 D cy ad (fun q => s.heap.size ≤ q) LAl) (hLz : Lz ≤ 2560) (hcells : cells ≤ 600000) (hslots : slots ≤ 7302250) (hX : va_X b Lz xs s s.heap) (hbl : b < s.heap.size) (hbA : ¬ (fun q => s.heap.size ≤ q) b) {k : Nat} (h5 : 5 * k + 5 ≤ Lz) {st : St} (hI : Inv st) (hend : ∀ st : St, Inv st → Gm p l e room_1 s m #[Value.ref b] below meth c D cy ad (fun q => s.heap.size ≤ q) LAl 4 cells slots (lw_Z below #[Value.ref b] s) 742 [(3, .int (nI (5 * k))), (2, .ref (ad 70)), (1, .ref (ad 0)), (0, .ref b)] [] st) : Gm p l e room_1 s m #[Value.ref b] below meth c D cy ad (fun q => s.heap.size ≤ q) LAl 4 cells slots (lw_Z below #[Value.ref b] s) 200 [(3, .int (nI (5 * k))), (2, .ref (ad 70)), (1, .ref (ad 0)), (0, .ref b)] [] st := by
  obtain ⟨r, s1, s2, o1, o2, o3⟩ := ok_cross (N := 6000) (by decide) hI (xs (5 * k + 1))
  refine g_aload_n C dL_law_200 rfl 2 rfl ?_
  refine l_ld C hX hbl hbA (n := 1) (v := (1 : Int32)) (by omega) hLz rfl (by decide) 3 0 rfl rfl dL_law_201 dL_law_202 dL_law_203 dL_law_204 dL_law_205 ?_
  refine g_cV (As := [.int (xs (5 * k + 1))]) (rest := []) (stk2 := [.int r]) C mf_X7_cross ok7 rfl lk_L_23 in_X7_cross se_X7_cross dL_law_206 (prF_LAl 0 rfl) rfl rfl rfl rfl ⟨(Nat.le_of_ble_eq_true rfl), (Nat.le_of_ble_eq_true rfl)⟩ (Nat.le_of_ble_eq_true rfl) ⟨hcells, hslots⟩ (ct_X7_cross prF_LAl o1) ?_
  refine g_aload_n C dL_law_209 rfl 1 rfl ?_
  refine l_ld C hX hbl hbA (n := 1) (v := (1 : Int32)) (by omega) hLz rfl (by decide) 3 0 rfl rfl dL_law_210 dL_law_211 dL_law_212 dL_law_213 dL_law_214 ?_
  refine g_cV (As := [.int (xs (5 * k + 1))]) (rest := [.int r]) (stk2 := [.int r, .int r]) C mf_X8_cross ok8 rfl lk_L_26 in_X8_cross se_X8_cross dL_law_215 (prF_LAl 70 rfl) rfl rfl rfl rfl ⟨(Nat.le_of_ble_eq_true rfl), (Nat.le_of_ble_eq_true rfl)⟩ (Nat.le_of_ble_eq_true rfl) ⟨hcells, hslots⟩ (ct_X8_cross prF_LAl o2) ?_
  refine l_eqT (tgt := 742) C dL_law_218 (by decide) ?_
  exact hend _ o3
set_option maxHeartbeats 4000000 in
set_option maxRecDepth 100000 in
/-- the law at told -/
theorem law_told {p : Program} {l : Launch} {e : Env} {s : State} {m : MethodId} {below : List Frame} {meth : Method} {c : Code} {D : va_G} {cy : Nat → ClassId} {ad : Nat → Nat} {cells slots b Lz : Nat} {xs : Nat → Int32} (C : Cx p s m #[Value.ref b] c cL_law RL 4 D cy ad (fun q => s.heap.size ≤ q) LAl) (hLz : Lz ≤ 2560) (hcells : cells ≤ 600000) (hslots : slots ≤ 7302250) (hX : va_X b Lz xs s s.heap) (hbl : b < s.heap.size) (hbA : ¬ (fun q => s.heap.size ≤ q) b) {k : Nat} (h5 : 5 * k + 5 ≤ Lz) {st : St} (hI : Inv st) (hend : ∀ st : St, Inv st → Gm p l e room_1 s m #[Value.ref b] below meth c D cy ad (fun q => s.heap.size ≤ q) LAl 4 cells slots (lw_Z below #[Value.ref b] s) 742 [(3, .int (nI (5 * k))), (2, .ref (ad 70)), (1, .ref (ad 0)), (0, .ref b)] [] st) : Gm p l e room_1 s m #[Value.ref b] below meth c D cy ad (fun q => s.heap.size ≤ q) LAl 4 cells slots (lw_Z below #[Value.ref b] s) 223 [(3, .int (nI (5 * k))), (2, .ref (ad 70)), (1, .ref (ad 0)), (0, .ref b)] [] st := by
  obtain ⟨r, o1, o2⟩ := ok_told hI (xs (5 * k + 1)) (xs (5 * k + 2))
  refine g_aload_n C dL_law_223 rfl 2 rfl ?_
  refine l_ld C hX hbl hbA (n := 1) (v := (1 : Int32)) (by omega) hLz rfl (by decide) 3 0 rfl rfl dL_law_224 dL_law_225 dL_law_226 dL_law_227 dL_law_228 ?_
  refine l_ld C hX hbl hbA (n := 2) (v := (2 : Int32)) (by omega) hLz rfl (by decide) 3 0 rfl rfl dL_law_229 dL_law_230 dL_law_231 dL_law_232 dL_law_233 ?_
  refine g_cV (As := [.int (xs (5 * k + 1)), .int (xs (5 * k + 2))]) (rest := []) (stk2 := [.int r]) C mf_X7_told ok7 rfl lk_L_27 in_X7_told se_X7_told dL_law_234 (prF_LAl 0 rfl) rfl rfl rfl rfl ⟨(Nat.le_of_ble_eq_true rfl), (Nat.le_of_ble_eq_true rfl)⟩ (Nat.le_of_ble_eq_true rfl) ⟨hcells, hslots⟩ (ct_X7_told prF_LAl o1) ?_
  refine g_aload_n C dL_law_237 rfl 1 rfl ?_
  refine l_ld C hX hbl hbA (n := 1) (v := (1 : Int32)) (by omega) hLz rfl (by decide) 3 0 rfl rfl dL_law_238 dL_law_239 dL_law_240 dL_law_241 dL_law_242 ?_
  refine l_ld C hX hbl hbA (n := 2) (v := (2 : Int32)) (by omega) hLz rfl (by decide) 3 0 rfl rfl dL_law_243 dL_law_244 dL_law_245 dL_law_246 dL_law_247 ?_
  refine g_cV (As := [.int (xs (5 * k + 1)), .int (xs (5 * k + 2))]) (rest := [.int r]) (stk2 := [.int r, .int r]) C mf_X8_told ok8 rfl lk_L_31 in_X8_told se_X8_told dL_law_248 (prF_LAl 70 rfl) rfl rfl rfl rfl ⟨(Nat.le_of_ble_eq_true rfl), (Nat.le_of_ble_eq_true rfl)⟩ (Nat.le_of_ble_eq_true rfl) ⟨hcells, hslots⟩ (ct_X8_told prF_LAl o2) ?_
  refine l_eqT (tgt := 742) C dL_law_251 (by decide) ?_
  exact hend _ hI
set_option maxHeartbeats 4000000 in
set_option maxRecDepth 100000 in
/-- the law at free -/
theorem law_free {p : Program} {l : Launch} {e : Env} {s : State} {m : MethodId} {below : List Frame} {meth : Method} {c : Code} {D : va_G} {cy : Nat → ClassId} {ad : Nat → Nat} {cells slots b Lz : Nat} {xs : Nat → Int32} (C : Cx p s m #[Value.ref b] c cL_law RL 4 D cy ad (fun q => s.heap.size ≤ q) LAl) (hLz : Lz ≤ 2560) (hcells : cells ≤ 600000) (hslots : slots ≤ 7302250) (hX : va_X b Lz xs s s.heap) (hbl : b < s.heap.size) (hbA : ¬ (fun q => s.heap.size ≤ q) b) {k : Nat} (h5 : 5 * k + 5 ≤ Lz) {st : St} (hI : Inv st) (hend : ∀ st : St, Inv st → Gm p l e room_1 s m #[Value.ref b] below meth c D cy ad (fun q => s.heap.size ≤ q) LAl 4 cells slots (lw_Z below #[Value.ref b] s) 742 [(3, .int (nI (5 * k))), (2, .ref (ad 70)), (1, .ref (ad 0)), (0, .ref b)] [] st) : Gm p l e room_1 s m #[Value.ref b] below meth c D cy ad (fun q => s.heap.size ≤ q) LAl 4 cells slots (lw_Z below #[Value.ref b] s) 256 [(3, .int (nI (5 * k))), (2, .ref (ad 70)), (1, .ref (ad 0)), (0, .ref b)] [] st := by
  obtain ⟨r, s1, s2, o1, o2, o3⟩ := ok_free (N := 6000) (by decide) hI (xs (5 * k + 1)) (xs (5 * k + 2))
  refine g_aload_n C dL_law_256 rfl 2 rfl ?_
  refine l_ld C hX hbl hbA (n := 1) (v := (1 : Int32)) (by omega) hLz rfl (by decide) 3 0 rfl rfl dL_law_257 dL_law_258 dL_law_259 dL_law_260 dL_law_261 ?_
  refine l_ld C hX hbl hbA (n := 2) (v := (2 : Int32)) (by omega) hLz rfl (by decide) 3 0 rfl rfl dL_law_262 dL_law_263 dL_law_264 dL_law_265 dL_law_266 ?_
  refine g_cV (As := [.int (xs (5 * k + 1)), .int (xs (5 * k + 2))]) (rest := []) (stk2 := [.int r]) C mf_X7_free ok7 rfl lk_L_32 in_X7_free se_X7_free dL_law_267 (prF_LAl 0 rfl) rfl rfl rfl rfl ⟨(Nat.le_of_ble_eq_true rfl), (Nat.le_of_ble_eq_true rfl)⟩ (Nat.le_of_ble_eq_true rfl) ⟨hcells, hslots⟩ (ct_X7_free prF_LAl o1) ?_
  refine g_aload_n C dL_law_270 rfl 1 rfl ?_
  refine l_ld C hX hbl hbA (n := 1) (v := (1 : Int32)) (by omega) hLz rfl (by decide) 3 0 rfl rfl dL_law_271 dL_law_272 dL_law_273 dL_law_274 dL_law_275 ?_
  refine l_ld C hX hbl hbA (n := 2) (v := (2 : Int32)) (by omega) hLz rfl (by decide) 3 0 rfl rfl dL_law_276 dL_law_277 dL_law_278 dL_law_279 dL_law_280 ?_
  refine g_cV (As := [.int (xs (5 * k + 1)), .int (xs (5 * k + 2))]) (rest := [.int r]) (stk2 := [.int r, .int r]) C mf_X8_free ok8 rfl lk_L_35 in_X8_free se_X8_free dL_law_281 (prF_LAl 70 rfl) rfl rfl rfl rfl ⟨(Nat.le_of_ble_eq_true rfl), (Nat.le_of_ble_eq_true rfl)⟩ (Nat.le_of_ble_eq_true rfl) ⟨hcells, hslots⟩ (ct_X8_free prF_LAl o2) ?_
  refine l_eqT (tgt := 742) C dL_law_284 (by decide) ?_
  exact hend _ o3
set_option maxHeartbeats 4000000 in
set_option maxRecDepth 100000 in
/-- the law at set -/
theorem law_set {p : Program} {l : Launch} {e : Env} {s : State} {m : MethodId} {below : List Frame} {meth : Method} {c : Code} {D : va_G} {cy : Nat → ClassId} {ad : Nat → Nat} {cells slots b Lz : Nat} {xs : Nat → Int32} (C : Cx p s m #[Value.ref b] c cL_law RL 4 D cy ad (fun q => s.heap.size ≤ q) LAl) (hLz : Lz ≤ 2560) (hcells : cells ≤ 600000) (hslots : slots ≤ 7302250) (hX : va_X b Lz xs s s.heap) (hbl : b < s.heap.size) (hbA : ¬ (fun q => s.heap.size ≤ q) b) {k : Nat} (h5 : 5 * k + 5 ≤ Lz) {st : St} (hI : Inv st) (hend : ∀ st : St, Inv st → Gm p l e room_1 s m #[Value.ref b] below meth c D cy ad (fun q => s.heap.size ≤ q) LAl 4 cells slots (lw_Z below #[Value.ref b] s) 742 [(3, .int (nI (5 * k))), (2, .ref (ad 70)), (1, .ref (ad 0)), (0, .ref b)] [] st) : Gm p l e room_1 s m #[Value.ref b] below meth c D cy ad (fun q => s.heap.size ≤ q) LAl 4 cells slots (lw_Z below #[Value.ref b] s) 289 [(3, .int (nI (5 * k))), (2, .ref (ad 70)), (1, .ref (ad 0)), (0, .ref b)] [] st := by
  obtain ⟨r, s1, s2, o1, o2, o3⟩ := ok_set (N := 6000) (by decide) hI (xs (5 * k + 1)) (xs (5 * k + 2))
  refine g_aload_n C dL_law_289 rfl 2 rfl ?_
  refine l_ld C hX hbl hbA (n := 1) (v := (1 : Int32)) (by omega) hLz rfl (by decide) 3 0 rfl rfl dL_law_290 dL_law_291 dL_law_292 dL_law_293 dL_law_294 ?_
  refine l_ld C hX hbl hbA (n := 2) (v := (2 : Int32)) (by omega) hLz rfl (by decide) 3 0 rfl rfl dL_law_295 dL_law_296 dL_law_297 dL_law_298 dL_law_299 ?_
  refine g_cV (As := [.int (xs (5 * k + 1)), .int (xs (5 * k + 2))]) (rest := []) (stk2 := [.int r]) C mf_X7_set ok7 rfl lk_L_36 in_X7_set se_X7_set dL_law_300 (prF_LAl 0 rfl) rfl rfl rfl rfl ⟨(Nat.le_of_ble_eq_true rfl), (Nat.le_of_ble_eq_true rfl)⟩ (Nat.le_of_ble_eq_true rfl) ⟨hcells, hslots⟩ (ct_X7_set prF_LAl o1) ?_
  refine g_aload_n C dL_law_303 rfl 1 rfl ?_
  refine l_ld C hX hbl hbA (n := 1) (v := (1 : Int32)) (by omega) hLz rfl (by decide) 3 0 rfl rfl dL_law_304 dL_law_305 dL_law_306 dL_law_307 dL_law_308 ?_
  refine l_ld C hX hbl hbA (n := 2) (v := (2 : Int32)) (by omega) hLz rfl (by decide) 3 0 rfl rfl dL_law_309 dL_law_310 dL_law_311 dL_law_312 dL_law_313 ?_
  refine g_cV (As := [.int (xs (5 * k + 1)), .int (xs (5 * k + 2))]) (rest := [.int r]) (stk2 := [.int r, .int r]) C mf_X8_set ok8 rfl lk_L_39 in_X8_set se_X8_set dL_law_314 (prF_LAl 70 rfl) rfl rfl rfl rfl ⟨(Nat.le_of_ble_eq_true rfl), (Nat.le_of_ble_eq_true rfl)⟩ (Nat.le_of_ble_eq_true rfl) ⟨hcells, hslots⟩ (ct_X8_set prF_LAl o2) ?_
  refine l_eqT (tgt := 742) C dL_law_317 (by decide) ?_
  exact hend _ o3
set_option maxHeartbeats 4000000 in
set_option maxRecDepth 100000 in
/-- the law at value -/
theorem law_value {p : Program} {l : Launch} {e : Env} {s : State} {m : MethodId} {below : List Frame} {meth : Method} {c : Code} {D : va_G} {cy : Nat → ClassId} {ad : Nat → Nat} {cells slots b Lz : Nat} {xs : Nat → Int32} (C : Cx p s m #[Value.ref b] c cL_law RL 4 D cy ad (fun q => s.heap.size ≤ q) LAl) (hLz : Lz ≤ 2560) (hcells : cells ≤ 600000) (hslots : slots ≤ 7302250) (hX : va_X b Lz xs s s.heap) (hbl : b < s.heap.size) (hbA : ¬ (fun q => s.heap.size ≤ q) b) {k : Nat} (h5 : 5 * k + 5 ≤ Lz) {st : St} (hI : Inv st) (hend : ∀ st : St, Inv st → Gm p l e room_1 s m #[Value.ref b] below meth c D cy ad (fun q => s.heap.size ≤ q) LAl 4 cells slots (lw_Z below #[Value.ref b] s) 742 [(3, .int (nI (5 * k))), (2, .ref (ad 70)), (1, .ref (ad 0)), (0, .ref b)] [] st) : Gm p l e room_1 s m #[Value.ref b] below meth c D cy ad (fun q => s.heap.size ≤ q) LAl 4 cells slots (lw_Z below #[Value.ref b] s) 322 [(3, .int (nI (5 * k))), (2, .ref (ad 70)), (1, .ref (ad 0)), (0, .ref b)] [] st := by
  obtain ⟨r, o1, o2⟩ := ok_value hI (xs (5 * k + 1))
  refine g_aload_n C dL_law_322 rfl 2 rfl ?_
  refine l_ld C hX hbl hbA (n := 1) (v := (1 : Int32)) (by omega) hLz rfl (by decide) 3 0 rfl rfl dL_law_323 dL_law_324 dL_law_325 dL_law_326 dL_law_327 ?_
  refine g_cV (As := [.int (xs (5 * k + 1))]) (rest := []) (stk2 := [.long r]) C mf_X7_value ok7 rfl lk_L_40 in_X7_value se_X7_value dL_law_328 (prF_LAl 0 rfl) rfl rfl rfl rfl ⟨(Nat.le_of_ble_eq_true rfl), (Nat.le_of_ble_eq_true rfl)⟩ (Nat.le_of_ble_eq_true rfl) ⟨hcells, hslots⟩ (ct_X7_value prF_LAl o1) ?_
  refine g_aload_n C dL_law_331 rfl 1 rfl ?_
  refine l_ld C hX hbl hbA (n := 1) (v := (1 : Int32)) (by omega) hLz rfl (by decide) 3 0 rfl rfl dL_law_332 dL_law_333 dL_law_334 dL_law_335 dL_law_336 ?_
  refine g_cV (As := [.int (xs (5 * k + 1))]) (rest := [.long r]) (stk2 := [.long r, .long r]) C mf_X8_value ok8 rfl lk_L_44 in_X8_value se_X8_value dL_law_337 (prF_LAl 70 rfl) rfl rfl rfl rfl ⟨(Nat.le_of_ble_eq_true rfl), (Nat.le_of_ble_eq_true rfl)⟩ (Nat.le_of_ble_eq_true rfl) ⟨hcells, hslots⟩ (ct_X8_value prF_LAl o2) ?_
  refine l_lcT (tgt := 742) C dL_law_340 dL_law_341 (by decide) ?_
  exact hend _ hI
set_option maxHeartbeats 4000000 in
set_option maxRecDepth 100000 in
/-- the law at sight -/
theorem law_sight {p : Program} {l : Launch} {e : Env} {s : State} {m : MethodId} {below : List Frame} {meth : Method} {c : Code} {D : va_G} {cy : Nat → ClassId} {ad : Nat → Nat} {cells slots b Lz : Nat} {xs : Nat → Int32} (C : Cx p s m #[Value.ref b] c cL_law RL 4 D cy ad (fun q => s.heap.size ≤ q) LAl) (hLz : Lz ≤ 2560) (hcells : cells ≤ 600000) (hslots : slots ≤ 7302250) (hX : va_X b Lz xs s s.heap) (hbl : b < s.heap.size) (hbA : ¬ (fun q => s.heap.size ≤ q) b) {k : Nat} (h5 : 5 * k + 5 ≤ Lz) {st : St} (hI : Inv st) (hend : ∀ st : St, Inv st → Gm p l e room_1 s m #[Value.ref b] below meth c D cy ad (fun q => s.heap.size ≤ q) LAl 4 cells slots (lw_Z below #[Value.ref b] s) 742 [(3, .int (nI (5 * k))), (2, .ref (ad 70)), (1, .ref (ad 0)), (0, .ref b)] [] st) : Gm p l e room_1 s m #[Value.ref b] below meth c D cy ad (fun q => s.heap.size ≤ q) LAl 4 cells slots (lw_Z below #[Value.ref b] s) 346 [(3, .int (nI (5 * k))), (2, .ref (ad 70)), (1, .ref (ad 0)), (0, .ref b)] [] st := by
  obtain ⟨r, s1, s2, o1, o2, o3⟩ := ok_sight (N := 6000) (by decide) hI (xs (5 * k + 1))
  refine g_aload_n C dL_law_346 rfl 2 rfl ?_
  refine l_ld C hX hbl hbA (n := 1) (v := (1 : Int32)) (by omega) hLz rfl (by decide) 3 0 rfl rfl dL_law_347 dL_law_348 dL_law_349 dL_law_350 dL_law_351 ?_
  refine g_cV (As := [.int (xs (5 * k + 1))]) (rest := []) (stk2 := [.int r]) C mf_X7_sight ok7 rfl lk_L_45 in_X7_sight se_X7_sight dL_law_352 (prF_LAl 0 rfl) rfl rfl rfl rfl ⟨(Nat.le_of_ble_eq_true rfl), (Nat.le_of_ble_eq_true rfl)⟩ (Nat.le_of_ble_eq_true rfl) ⟨hcells, hslots⟩ (ct_X7_sight prF_LAl o1) ?_
  refine g_aload_n C dL_law_355 rfl 1 rfl ?_
  refine l_ld C hX hbl hbA (n := 1) (v := (1 : Int32)) (by omega) hLz rfl (by decide) 3 0 rfl rfl dL_law_356 dL_law_357 dL_law_358 dL_law_359 dL_law_360 ?_
  refine g_cV (As := [.int (xs (5 * k + 1))]) (rest := [.int r]) (stk2 := [.int r, .int r]) C mf_X8_sight ok8 rfl lk_L_48 in_X8_sight se_X8_sight dL_law_361 (prF_LAl 70 rfl) rfl rfl rfl rfl ⟨(Nat.le_of_ble_eq_true rfl), (Nat.le_of_ble_eq_true rfl)⟩ (Nat.le_of_ble_eq_true rfl) ⟨hcells, hslots⟩ (ct_X8_sight prF_LAl o2) ?_
  refine l_eqT (tgt := 742) C dL_law_364 (by decide) ?_
  exact hend _ o3
set_option maxHeartbeats 4000000 in
set_option maxRecDepth 100000 in
/-- the law at plan -/
theorem law_plan {p : Program} {l : Launch} {e : Env} {s : State} {m : MethodId} {below : List Frame} {meth : Method} {c : Code} {D : va_G} {cy : Nat → ClassId} {ad : Nat → Nat} {cells slots b Lz : Nat} {xs : Nat → Int32} (C : Cx p s m #[Value.ref b] c cL_law RL 4 D cy ad (fun q => s.heap.size ≤ q) LAl) (hLz : Lz ≤ 2560) (hcells : cells ≤ 600000) (hslots : slots ≤ 7302250) (hX : va_X b Lz xs s s.heap) (hbl : b < s.heap.size) (hbA : ¬ (fun q => s.heap.size ≤ q) b) {k : Nat} (h5 : 5 * k + 5 ≤ Lz) {st : St} (hI : Inv st) (hend : ∀ st : St, Inv st → Gm p l e room_1 s m #[Value.ref b] below meth c D cy ad (fun q => s.heap.size ≤ q) LAl 4 cells slots (lw_Z below #[Value.ref b] s) 742 [(3, .int (nI (5 * k))), (2, .ref (ad 70)), (1, .ref (ad 0)), (0, .ref b)] [] st) : Gm p l e room_1 s m #[Value.ref b] below meth c D cy ad (fun q => s.heap.size ≤ q) LAl 4 cells slots (lw_Z below #[Value.ref b] s) 369 [(3, .int (nI (5 * k))), (2, .ref (ad 70)), (1, .ref (ad 0)), (0, .ref b)] [] st := by
  obtain ⟨r, s1, s2, o1, o2, o3⟩ := ok_plan (N := 6000) (by decide) hI (xs (5 * k + 1)) (xs (5 * k + 2)) (xs (5 * k + 3))
  refine g_aload_n C dL_law_369 rfl 2 rfl ?_
  refine l_ld C hX hbl hbA (n := 1) (v := (1 : Int32)) (by omega) hLz rfl (by decide) 3 0 rfl rfl dL_law_370 dL_law_371 dL_law_372 dL_law_373 dL_law_374 ?_
  refine l_ld C hX hbl hbA (n := 2) (v := (2 : Int32)) (by omega) hLz rfl (by decide) 3 0 rfl rfl dL_law_375 dL_law_376 dL_law_377 dL_law_378 dL_law_379 ?_
  refine l_ld C hX hbl hbA (n := 3) (v := (3 : Int32)) (by omega) hLz rfl (by decide) 3 0 rfl rfl dL_law_380 dL_law_381 dL_law_382 dL_law_383 dL_law_384 ?_
  refine g_cV (As := [.int (xs (5 * k + 1)), .int (xs (5 * k + 2)), .int (xs (5 * k + 3))]) (rest := []) (stk2 := [.int r]) C mf_X7_plan ok7 rfl lk_L_49 in_X7_plan se_X7_plan dL_law_385 (prF_LAl 0 rfl) rfl rfl rfl rfl ⟨(Nat.le_of_ble_eq_true rfl), (Nat.le_of_ble_eq_true rfl)⟩ (Nat.le_of_ble_eq_true rfl) ⟨hcells, hslots⟩ (ct_X7_plan prF_LAl o1) ?_
  refine g_aload_n C dL_law_388 rfl 1 rfl ?_
  refine l_ld C hX hbl hbA (n := 1) (v := (1 : Int32)) (by omega) hLz rfl (by decide) 3 0 rfl rfl dL_law_389 dL_law_390 dL_law_391 dL_law_392 dL_law_393 ?_
  refine l_ld C hX hbl hbA (n := 2) (v := (2 : Int32)) (by omega) hLz rfl (by decide) 3 0 rfl rfl dL_law_394 dL_law_395 dL_law_396 dL_law_397 dL_law_398 ?_
  refine l_ld C hX hbl hbA (n := 3) (v := (3 : Int32)) (by omega) hLz rfl (by decide) 3 0 rfl rfl dL_law_399 dL_law_400 dL_law_401 dL_law_402 dL_law_403 ?_
  refine g_cV (As := [.int (xs (5 * k + 1)), .int (xs (5 * k + 2)), .int (xs (5 * k + 3))]) (rest := [.int r]) (stk2 := [.int r, .int r]) C mf_X8_plan ok8 rfl lk_L_53 in_X8_plan se_X8_plan dL_law_404 (prF_LAl 70 rfl) rfl rfl rfl rfl ⟨(Nat.le_of_ble_eq_true rfl), (Nat.le_of_ble_eq_true rfl)⟩ (Nat.le_of_ble_eq_true rfl) ⟨hcells, hslots⟩ (ct_X8_plan prF_LAl o2) ?_
  refine l_eqT (tgt := 742) C dL_law_407 (by decide) ?_
  exact hend _ o3
set_option maxHeartbeats 4000000 in
set_option maxRecDepth 100000 in
/-- the law at place -/
theorem law_place {p : Program} {l : Launch} {e : Env} {s : State} {m : MethodId} {below : List Frame} {meth : Method} {c : Code} {D : va_G} {cy : Nat → ClassId} {ad : Nat → Nat} {cells slots b Lz : Nat} {xs : Nat → Int32} (C : Cx p s m #[Value.ref b] c cL_law RL 4 D cy ad (fun q => s.heap.size ≤ q) LAl) (hLz : Lz ≤ 2560) (hcells : cells ≤ 600000) (hslots : slots ≤ 7302250) (hX : va_X b Lz xs s s.heap) (hbl : b < s.heap.size) (hbA : ¬ (fun q => s.heap.size ≤ q) b) {k : Nat} (h5 : 5 * k + 5 ≤ Lz) {st : St} (hI : Inv st) (hend : ∀ st : St, Inv st → Gm p l e room_1 s m #[Value.ref b] below meth c D cy ad (fun q => s.heap.size ≤ q) LAl 4 cells slots (lw_Z below #[Value.ref b] s) 742 [(3, .int (nI (5 * k))), (2, .ref (ad 70)), (1, .ref (ad 0)), (0, .ref b)] [] st) : Gm p l e room_1 s m #[Value.ref b] below meth c D cy ad (fun q => s.heap.size ≤ q) LAl 4 cells slots (lw_Z below #[Value.ref b] s) 412 [(3, .int (nI (5 * k))), (2, .ref (ad 70)), (1, .ref (ad 0)), (0, .ref b)] [] st := by
  obtain ⟨r, s1, s2, o1, o2, o3⟩ := ok_place (N := 6000) (by decide) hI (xs (5 * k + 1)) (xs (5 * k + 2)) (xs (5 * k + 3)) (xs (5 * k + 4))
  refine g_aload_n C dL_law_412 rfl 2 rfl ?_
  refine l_ld C hX hbl hbA (n := 1) (v := (1 : Int32)) (by omega) hLz rfl (by decide) 3 0 rfl rfl dL_law_413 dL_law_414 dL_law_415 dL_law_416 dL_law_417 ?_
  refine l_ld C hX hbl hbA (n := 2) (v := (2 : Int32)) (by omega) hLz rfl (by decide) 3 0 rfl rfl dL_law_418 dL_law_419 dL_law_420 dL_law_421 dL_law_422 ?_
  refine l_ld C hX hbl hbA (n := 3) (v := (3 : Int32)) (by omega) hLz rfl (by decide) 3 0 rfl rfl dL_law_423 dL_law_424 dL_law_425 dL_law_426 dL_law_427 ?_
  refine l_ld C hX hbl hbA (n := 4) (v := (4 : Int32)) (by omega) hLz rfl (by decide) 3 0 rfl rfl dL_law_428 dL_law_429 dL_law_430 dL_law_431 dL_law_432 ?_
  refine g_cV (As := [.int (xs (5 * k + 1)), .int (xs (5 * k + 2)), .int (xs (5 * k + 3)), .int (xs (5 * k + 4))]) (rest := []) (stk2 := [.int r]) C mf_X7_place ok7 rfl lk_L_54 in_X7_place se_X7_place dL_law_433 (prF_LAl 0 rfl) rfl rfl rfl rfl ⟨(Nat.le_of_ble_eq_true rfl), (Nat.le_of_ble_eq_true rfl)⟩ (Nat.le_of_ble_eq_true rfl) ⟨hcells, hslots⟩ (ct_X7_place prF_LAl o1) ?_
  refine g_aload_n C dL_law_436 rfl 1 rfl ?_
  refine l_ld C hX hbl hbA (n := 1) (v := (1 : Int32)) (by omega) hLz rfl (by decide) 3 0 rfl rfl dL_law_437 dL_law_438 dL_law_439 dL_law_440 dL_law_441 ?_
  refine l_ld C hX hbl hbA (n := 2) (v := (2 : Int32)) (by omega) hLz rfl (by decide) 3 0 rfl rfl dL_law_442 dL_law_443 dL_law_444 dL_law_445 dL_law_446 ?_
  refine l_ld C hX hbl hbA (n := 3) (v := (3 : Int32)) (by omega) hLz rfl (by decide) 3 0 rfl rfl dL_law_447 dL_law_448 dL_law_449 dL_law_450 dL_law_451 ?_
  refine l_ld C hX hbl hbA (n := 4) (v := (4 : Int32)) (by omega) hLz rfl (by decide) 3 0 rfl rfl dL_law_452 dL_law_453 dL_law_454 dL_law_455 dL_law_456 ?_
  refine g_cV (As := [.int (xs (5 * k + 1)), .int (xs (5 * k + 2)), .int (xs (5 * k + 3)), .int (xs (5 * k + 4))]) (rest := [.int r]) (stk2 := [.int r, .int r]) C mf_X8_place ok8 rfl lk_L_57 in_X8_place se_X8_place dL_law_457 (prF_LAl 70 rfl) rfl rfl rfl rfl ⟨(Nat.le_of_ble_eq_true rfl), (Nat.le_of_ble_eq_true rfl)⟩ (Nat.le_of_ble_eq_true rfl) ⟨hcells, hslots⟩ (ct_X8_place prF_LAl o2) ?_
  refine l_eqT (tgt := 742) C dL_law_460 (by decide) ?_
  exact hend _ o3
set_option maxHeartbeats 4000000 in
set_option maxRecDepth 100000 in
/-- the law at step -/
theorem law_step {p : Program} {l : Launch} {e : Env} {s : State} {m : MethodId} {below : List Frame} {meth : Method} {c : Code} {D : va_G} {cy : Nat → ClassId} {ad : Nat → Nat} {cells slots b Lz : Nat} {xs : Nat → Int32} (C : Cx p s m #[Value.ref b] c cL_law RL 4 D cy ad (fun q => s.heap.size ≤ q) LAl) (hLz : Lz ≤ 2560) (hcells : cells ≤ 600000) (hslots : slots ≤ 7302250) (hX : va_X b Lz xs s s.heap) (hbl : b < s.heap.size) (hbA : ¬ (fun q => s.heap.size ≤ q) b) {k : Nat} (h5 : 5 * k + 5 ≤ Lz) {st : St} (hI : Inv st) (hend : ∀ st : St, Inv st → Gm p l e room_1 s m #[Value.ref b] below meth c D cy ad (fun q => s.heap.size ≤ q) LAl 4 cells slots (lw_Z below #[Value.ref b] s) 742 [(3, .int (nI (5 * k))), (2, .ref (ad 70)), (1, .ref (ad 0)), (0, .ref b)] [] st) : Gm p l e room_1 s m #[Value.ref b] below meth c D cy ad (fun q => s.heap.size ≤ q) LAl 4 cells slots (lw_Z below #[Value.ref b] s) 465 [(3, .int (nI (5 * k))), (2, .ref (ad 70)), (1, .ref (ad 0)), (0, .ref b)] [] st := by
  obtain ⟨r, s1, s2, o1, o2, o3⟩ := ok_step (N := 6000) (by decide) hI (xs (5 * k + 1)) (xs (5 * k + 2)) (xs (5 * k + 3)) (xs (5 * k + 4))
  refine g_aload_n C dL_law_465 rfl 2 rfl ?_
  refine l_ld C hX hbl hbA (n := 1) (v := (1 : Int32)) (by omega) hLz rfl (by decide) 3 0 rfl rfl dL_law_466 dL_law_467 dL_law_468 dL_law_469 dL_law_470 ?_
  refine l_ld C hX hbl hbA (n := 2) (v := (2 : Int32)) (by omega) hLz rfl (by decide) 3 0 rfl rfl dL_law_471 dL_law_472 dL_law_473 dL_law_474 dL_law_475 ?_
  refine l_ld C hX hbl hbA (n := 3) (v := (3 : Int32)) (by omega) hLz rfl (by decide) 3 0 rfl rfl dL_law_476 dL_law_477 dL_law_478 dL_law_479 dL_law_480 ?_
  refine l_ld C hX hbl hbA (n := 4) (v := (4 : Int32)) (by omega) hLz rfl (by decide) 3 0 rfl rfl dL_law_481 dL_law_482 dL_law_483 dL_law_484 dL_law_485 ?_
  refine g_cV (As := [.int (xs (5 * k + 1)), .int (xs (5 * k + 2)), .int (xs (5 * k + 3)), .int (xs (5 * k + 4))]) (rest := []) (stk2 := [.int r]) C mf_X7_step ok7 rfl lk_L_58 in_X7_step se_X7_step dL_law_486 (prF_LAl 0 rfl) rfl rfl rfl rfl ⟨(Nat.le_of_ble_eq_true rfl), (Nat.le_of_ble_eq_true rfl)⟩ (Nat.le_of_ble_eq_true rfl) ⟨hcells, hslots⟩ (ct_X7_step prF_LAl o1) ?_
  refine g_aload_n C dL_law_489 rfl 1 rfl ?_
  refine l_ld C hX hbl hbA (n := 1) (v := (1 : Int32)) (by omega) hLz rfl (by decide) 3 0 rfl rfl dL_law_490 dL_law_491 dL_law_492 dL_law_493 dL_law_494 ?_
  refine l_ld C hX hbl hbA (n := 2) (v := (2 : Int32)) (by omega) hLz rfl (by decide) 3 0 rfl rfl dL_law_495 dL_law_496 dL_law_497 dL_law_498 dL_law_499 ?_
  refine l_ld C hX hbl hbA (n := 3) (v := (3 : Int32)) (by omega) hLz rfl (by decide) 3 0 rfl rfl dL_law_500 dL_law_501 dL_law_502 dL_law_503 dL_law_504 ?_
  refine l_ld C hX hbl hbA (n := 4) (v := (4 : Int32)) (by omega) hLz rfl (by decide) 3 0 rfl rfl dL_law_505 dL_law_506 dL_law_507 dL_law_508 dL_law_509 ?_
  refine g_cV (As := [.int (xs (5 * k + 1)), .int (xs (5 * k + 2)), .int (xs (5 * k + 3)), .int (xs (5 * k + 4))]) (rest := [.int r]) (stk2 := [.int r, .int r]) C mf_X8_step ok8 rfl lk_L_61 in_X8_step se_X8_step dL_law_510 (prF_LAl 70 rfl) rfl rfl rfl rfl ⟨(Nat.le_of_ble_eq_true rfl), (Nat.le_of_ble_eq_true rfl)⟩ (Nat.le_of_ble_eq_true rfl) ⟨hcells, hslots⟩ (ct_X8_step prF_LAl o2) ?_
  refine l_eqT (tgt := 742) C dL_law_513 (by decide) ?_
  exact hend _ o3
set_option maxHeartbeats 4000000 in
set_option maxRecDepth 100000 in
/-- the law at run -/
theorem law_run {p : Program} {l : Launch} {e : Env} {s : State} {m : MethodId} {below : List Frame} {meth : Method} {c : Code} {D : va_G} {cy : Nat → ClassId} {ad : Nat → Nat} {cells slots b Lz : Nat} {xs : Nat → Int32} (C : Cx p s m #[Value.ref b] c cL_law RL 4 D cy ad (fun q => s.heap.size ≤ q) LAl) (hLz : Lz ≤ 2560) (hcells : cells ≤ 600000) (hslots : slots ≤ 7302250) (hX : va_X b Lz xs s s.heap) (hbl : b < s.heap.size) (hbA : ¬ (fun q => s.heap.size ≤ q) b) {k : Nat} (h5 : 5 * k + 5 ≤ Lz) {st : St} (hI : Inv st) (hend : ∀ st : St, Inv st → Gm p l e room_1 s m #[Value.ref b] below meth c D cy ad (fun q => s.heap.size ≤ q) LAl 4 cells slots (lw_Z below #[Value.ref b] s) 742 [(3, .int (nI (5 * k))), (2, .ref (ad 70)), (1, .ref (ad 0)), (0, .ref b)] [] st) : Gm p l e room_1 s m #[Value.ref b] below meth c D cy ad (fun q => s.heap.size ≤ q) LAl 4 cells slots (lw_Z below #[Value.ref b] s) 518 [(3, .int (nI (5 * k))), (2, .ref (ad 70)), (1, .ref (ad 0)), (0, .ref b)] [] st := by
  obtain ⟨r, s1, s2, o1, o2, o3⟩ := ok_run (N := 6000) (by decide) hI (xs (5 * k + 1)) (xs (5 * k + 2))
  refine g_aload_n C dL_law_518 rfl 2 rfl ?_
  refine l_ld C hX hbl hbA (n := 1) (v := (1 : Int32)) (by omega) hLz rfl (by decide) 3 0 rfl rfl dL_law_519 dL_law_520 dL_law_521 dL_law_522 dL_law_523 ?_
  refine l_ld C hX hbl hbA (n := 2) (v := (2 : Int32)) (by omega) hLz rfl (by decide) 3 0 rfl rfl dL_law_524 dL_law_525 dL_law_526 dL_law_527 dL_law_528 ?_
  refine g_cV (As := [.int (xs (5 * k + 1)), .int (xs (5 * k + 2))]) (rest := []) (stk2 := [.int r]) C mf_X7_run ok7 rfl lk_L_62 in_X7_run se_X7_run dL_law_529 (prF_LAl 0 rfl) rfl rfl rfl rfl ⟨(Nat.le_of_ble_eq_true rfl), (Nat.le_of_ble_eq_true rfl)⟩ (Nat.le_of_ble_eq_true rfl) ⟨hcells, hslots⟩ (ct_X7_run prF_LAl o1) ?_
  refine g_aload_n C dL_law_532 rfl 1 rfl ?_
  refine l_ld C hX hbl hbA (n := 1) (v := (1 : Int32)) (by omega) hLz rfl (by decide) 3 0 rfl rfl dL_law_533 dL_law_534 dL_law_535 dL_law_536 dL_law_537 ?_
  refine l_ld C hX hbl hbA (n := 2) (v := (2 : Int32)) (by omega) hLz rfl (by decide) 3 0 rfl rfl dL_law_538 dL_law_539 dL_law_540 dL_law_541 dL_law_542 ?_
  refine g_cV (As := [.int (xs (5 * k + 1)), .int (xs (5 * k + 2))]) (rest := [.int r]) (stk2 := [.int r, .int r]) C mf_X8_run ok8 rfl lk_L_65 in_X8_run se_X8_run dL_law_543 (prF_LAl 70 rfl) rfl rfl rfl rfl ⟨(Nat.le_of_ble_eq_true rfl), (Nat.le_of_ble_eq_true rfl)⟩ (Nat.le_of_ble_eq_true rfl) ⟨hcells, hslots⟩ (ct_X8_run prF_LAl o2) ?_
  refine l_eqT (tgt := 742) C dL_law_546 (by decide) ?_
  exact hend _ o3
set_option maxHeartbeats 4000000 in
set_option maxRecDepth 100000 in
/-- the law at weight -/
theorem law_weight {p : Program} {l : Launch} {e : Env} {s : State} {m : MethodId} {below : List Frame} {meth : Method} {c : Code} {D : va_G} {cy : Nat → ClassId} {ad : Nat → Nat} {cells slots b Lz : Nat} {xs : Nat → Int32} (C : Cx p s m #[Value.ref b] c cL_law RL 4 D cy ad (fun q => s.heap.size ≤ q) LAl) (hLz : Lz ≤ 2560) (hcells : cells ≤ 600000) (hslots : slots ≤ 7302250) (hX : va_X b Lz xs s s.heap) (hbl : b < s.heap.size) (hbA : ¬ (fun q => s.heap.size ≤ q) b) {k : Nat} (h5 : 5 * k + 5 ≤ Lz) {st : St} (hI : Inv st) (hend : ∀ st : St, Inv st → Gm p l e room_1 s m #[Value.ref b] below meth c D cy ad (fun q => s.heap.size ≤ q) LAl 4 cells slots (lw_Z below #[Value.ref b] s) 742 [(3, .int (nI (5 * k))), (2, .ref (ad 70)), (1, .ref (ad 0)), (0, .ref b)] [] st) : Gm p l e room_1 s m #[Value.ref b] below meth c D cy ad (fun q => s.heap.size ≤ q) LAl 4 cells slots (lw_Z below #[Value.ref b] s) 551 [(3, .int (nI (5 * k))), (2, .ref (ad 70)), (1, .ref (ad 0)), (0, .ref b)] [] st := by
  obtain ⟨r, s1, s2, o1, o2, o3⟩ := ok_weight (N := 6000) (by decide) hI (xs (5 * k + 1)) (xs (5 * k + 2))
  refine g_aload_n C dL_law_551 rfl 2 rfl ?_
  refine l_ld C hX hbl hbA (n := 1) (v := (1 : Int32)) (by omega) hLz rfl (by decide) 3 0 rfl rfl dL_law_552 dL_law_553 dL_law_554 dL_law_555 dL_law_556 ?_
  refine l_ld C hX hbl hbA (n := 2) (v := (2 : Int32)) (by omega) hLz rfl (by decide) 3 0 rfl rfl dL_law_557 dL_law_558 dL_law_559 dL_law_560 dL_law_561 ?_
  refine g_cV (As := [.int (xs (5 * k + 1)), .int (xs (5 * k + 2))]) (rest := []) (stk2 := [.int r]) C mf_X7_weight ok7 rfl lk_L_66 in_X7_weight se_X7_weight dL_law_562 (prF_LAl 0 rfl) rfl rfl rfl rfl ⟨(Nat.le_of_ble_eq_true rfl), (Nat.le_of_ble_eq_true rfl)⟩ (Nat.le_of_ble_eq_true rfl) ⟨hcells, hslots⟩ (ct_X7_weight prF_LAl o1) ?_
  refine g_aload_n C dL_law_565 rfl 1 rfl ?_
  refine l_ld C hX hbl hbA (n := 1) (v := (1 : Int32)) (by omega) hLz rfl (by decide) 3 0 rfl rfl dL_law_566 dL_law_567 dL_law_568 dL_law_569 dL_law_570 ?_
  refine l_ld C hX hbl hbA (n := 2) (v := (2 : Int32)) (by omega) hLz rfl (by decide) 3 0 rfl rfl dL_law_571 dL_law_572 dL_law_573 dL_law_574 dL_law_575 ?_
  refine g_cV (As := [.int (xs (5 * k + 1)), .int (xs (5 * k + 2))]) (rest := [.int r]) (stk2 := [.int r, .int r]) C mf_X8_weight ok8 rfl lk_L_69 in_X8_weight se_X8_weight dL_law_576 (prF_LAl 70 rfl) rfl rfl rfl rfl ⟨(Nat.le_of_ble_eq_true rfl), (Nat.le_of_ble_eq_true rfl)⟩ (Nat.le_of_ble_eq_true rfl) ⟨hcells, hslots⟩ (ct_X8_weight prF_LAl o2) ?_
  refine l_eqT (tgt := 742) C dL_law_579 (by decide) ?_
  exact hend _ o3
set_option maxHeartbeats 4000000 in
set_option maxRecDepth 100000 in
/-- the law at taken -/
theorem law_taken {p : Program} {l : Launch} {e : Env} {s : State} {m : MethodId} {below : List Frame} {meth : Method} {c : Code} {D : va_G} {cy : Nat → ClassId} {ad : Nat → Nat} {cells slots b Lz : Nat} {xs : Nat → Int32} (C : Cx p s m #[Value.ref b] c cL_law RL 4 D cy ad (fun q => s.heap.size ≤ q) LAl) (hLz : Lz ≤ 2560) (hcells : cells ≤ 600000) (hslots : slots ≤ 7302250) (hX : va_X b Lz xs s s.heap) (hbl : b < s.heap.size) (hbA : ¬ (fun q => s.heap.size ≤ q) b) {k : Nat} (h5 : 5 * k + 5 ≤ Lz) {st : St} (hI : Inv st) (hend : ∀ st : St, Inv st → Gm p l e room_1 s m #[Value.ref b] below meth c D cy ad (fun q => s.heap.size ≤ q) LAl 4 cells slots (lw_Z below #[Value.ref b] s) 742 [(3, .int (nI (5 * k))), (2, .ref (ad 70)), (1, .ref (ad 0)), (0, .ref b)] [] st) : Gm p l e room_1 s m #[Value.ref b] below meth c D cy ad (fun q => s.heap.size ≤ q) LAl 4 cells slots (lw_Z below #[Value.ref b] s) 584 [(3, .int (nI (5 * k))), (2, .ref (ad 70)), (1, .ref (ad 0)), (0, .ref b)] [] st := by
  obtain ⟨r, s1, s2, o1, o2, o3⟩ := ok_taken (N := 6000) (by decide) hI (xs (5 * k + 1)) (xs (5 * k + 2))
  refine g_aload_n C dL_law_584 rfl 2 rfl ?_
  refine l_ld C hX hbl hbA (n := 1) (v := (1 : Int32)) (by omega) hLz rfl (by decide) 3 0 rfl rfl dL_law_585 dL_law_586 dL_law_587 dL_law_588 dL_law_589 ?_
  refine l_ld C hX hbl hbA (n := 2) (v := (2 : Int32)) (by omega) hLz rfl (by decide) 3 0 rfl rfl dL_law_590 dL_law_591 dL_law_592 dL_law_593 dL_law_594 ?_
  refine g_cV (As := [.int (xs (5 * k + 1)), .int (xs (5 * k + 2))]) (rest := []) (stk2 := [.int r]) C mf_X7_taken ok7 rfl lk_L_70 in_X7_taken se_X7_taken dL_law_595 (prF_LAl 0 rfl) rfl rfl rfl rfl ⟨(Nat.le_of_ble_eq_true rfl), (Nat.le_of_ble_eq_true rfl)⟩ (Nat.le_of_ble_eq_true rfl) ⟨hcells, hslots⟩ (ct_X7_taken prF_LAl o1) ?_
  refine g_aload_n C dL_law_598 rfl 1 rfl ?_
  refine l_ld C hX hbl hbA (n := 1) (v := (1 : Int32)) (by omega) hLz rfl (by decide) 3 0 rfl rfl dL_law_599 dL_law_600 dL_law_601 dL_law_602 dL_law_603 ?_
  refine l_ld C hX hbl hbA (n := 2) (v := (2 : Int32)) (by omega) hLz rfl (by decide) 3 0 rfl rfl dL_law_604 dL_law_605 dL_law_606 dL_law_607 dL_law_608 ?_
  refine g_cV (As := [.int (xs (5 * k + 1)), .int (xs (5 * k + 2))]) (rest := [.int r]) (stk2 := [.int r, .int r]) C mf_X8_taken ok8 rfl lk_L_73 in_X8_taken se_X8_taken dL_law_609 (prF_LAl 70 rfl) rfl rfl rfl rfl ⟨(Nat.le_of_ble_eq_true rfl), (Nat.le_of_ble_eq_true rfl)⟩ (Nat.le_of_ble_eq_true rfl) ⟨hcells, hslots⟩ (ct_X8_taken prF_LAl o2) ?_
  refine l_eqT (tgt := 742) C dL_law_612 (by decide) ?_
  exact hend _ o3
set_option maxHeartbeats 4000000 in
set_option maxRecDepth 100000 in
/-- the law at exchange -/
theorem law_exchange {p : Program} {l : Launch} {e : Env} {s : State} {m : MethodId} {below : List Frame} {meth : Method} {c : Code} {D : va_G} {cy : Nat → ClassId} {ad : Nat → Nat} {cells slots b Lz : Nat} {xs : Nat → Int32} (C : Cx p s m #[Value.ref b] c cL_law RL 4 D cy ad (fun q => s.heap.size ≤ q) LAl) (hLz : Lz ≤ 2560) (hcells : cells ≤ 600000) (hslots : slots ≤ 7302250) (hX : va_X b Lz xs s s.heap) (hbl : b < s.heap.size) (hbA : ¬ (fun q => s.heap.size ≤ q) b) {k : Nat} (h5 : 5 * k + 5 ≤ Lz) {st : St} (hI : Inv st) (hend : ∀ st : St, Inv st → Gm p l e room_1 s m #[Value.ref b] below meth c D cy ad (fun q => s.heap.size ≤ q) LAl 4 cells slots (lw_Z below #[Value.ref b] s) 742 [(3, .int (nI (5 * k))), (2, .ref (ad 70)), (1, .ref (ad 0)), (0, .ref b)] [] st) : Gm p l e room_1 s m #[Value.ref b] below meth c D cy ad (fun q => s.heap.size ≤ q) LAl 4 cells slots (lw_Z below #[Value.ref b] s) 617 [(3, .int (nI (5 * k))), (2, .ref (ad 70)), (1, .ref (ad 0)), (0, .ref b)] [] st := by
  obtain ⟨r, s1, s2, o1, o2, o3⟩ := ok_exchange hI (xs (5 * k + 1)) (xs (5 * k + 2))
  refine g_aload_n C dL_law_617 rfl 2 rfl ?_
  refine l_ld C hX hbl hbA (n := 1) (v := (1 : Int32)) (by omega) hLz rfl (by decide) 3 0 rfl rfl dL_law_618 dL_law_619 dL_law_620 dL_law_621 dL_law_622 ?_
  refine l_ld C hX hbl hbA (n := 2) (v := (2 : Int32)) (by omega) hLz rfl (by decide) 3 0 rfl rfl dL_law_623 dL_law_624 dL_law_625 dL_law_626 dL_law_627 ?_
  refine g_cV (As := [.int (xs (5 * k + 1)), .int (xs (5 * k + 2))]) (rest := []) (stk2 := [.int r]) C mf_X7_exchange ok7 rfl lk_L_74 in_X7_exchange se_X7_exchange dL_law_628 (prF_LAl 0 rfl) rfl rfl rfl rfl ⟨(Nat.le_of_ble_eq_true rfl), (Nat.le_of_ble_eq_true rfl)⟩ (Nat.le_of_ble_eq_true rfl) ⟨hcells, hslots⟩ (ct_X7_exchange prF_LAl o1) ?_
  refine g_aload_n C dL_law_631 rfl 1 rfl ?_
  refine l_ld C hX hbl hbA (n := 1) (v := (1 : Int32)) (by omega) hLz rfl (by decide) 3 0 rfl rfl dL_law_632 dL_law_633 dL_law_634 dL_law_635 dL_law_636 ?_
  refine l_ld C hX hbl hbA (n := 2) (v := (2 : Int32)) (by omega) hLz rfl (by decide) 3 0 rfl rfl dL_law_637 dL_law_638 dL_law_639 dL_law_640 dL_law_641 ?_
  refine g_cV (As := [.int (xs (5 * k + 1)), .int (xs (5 * k + 2))]) (rest := [.int r]) (stk2 := [.int r, .int r]) C mf_X8_exchange ok8 rfl lk_L_77 in_X8_exchange se_X8_exchange dL_law_642 (prF_LAl 70 rfl) rfl rfl rfl rfl ⟨(Nat.le_of_ble_eq_true rfl), (Nat.le_of_ble_eq_true rfl)⟩ (Nat.le_of_ble_eq_true rfl) ⟨hcells, hslots⟩ (ct_X8_exchange prF_LAl o2) ?_
  refine l_eqT (tgt := 742) C dL_law_645 (by decide) ?_
  exact hend _ o3
set_option maxHeartbeats 4000000 in
set_option maxRecDepth 100000 in
/-- the law at hand -/
theorem law_hand {p : Program} {l : Launch} {e : Env} {s : State} {m : MethodId} {below : List Frame} {meth : Method} {c : Code} {D : va_G} {cy : Nat → ClassId} {ad : Nat → Nat} {cells slots b Lz : Nat} {xs : Nat → Int32} (C : Cx p s m #[Value.ref b] c cL_law RL 4 D cy ad (fun q => s.heap.size ≤ q) LAl) (hLz : Lz ≤ 2560) (hcells : cells ≤ 600000) (hslots : slots ≤ 7302250) (hX : va_X b Lz xs s s.heap) (hbl : b < s.heap.size) (hbA : ¬ (fun q => s.heap.size ≤ q) b) {k : Nat} (h5 : 5 * k + 5 ≤ Lz) {st : St} (hI : Inv st) (hend : ∀ st : St, Inv st → Gm p l e room_1 s m #[Value.ref b] below meth c D cy ad (fun q => s.heap.size ≤ q) LAl 4 cells slots (lw_Z below #[Value.ref b] s) 742 [(3, .int (nI (5 * k))), (2, .ref (ad 70)), (1, .ref (ad 0)), (0, .ref b)] [] st) : Gm p l e room_1 s m #[Value.ref b] below meth c D cy ad (fun q => s.heap.size ≤ q) LAl 4 cells slots (lw_Z below #[Value.ref b] s) 650 [(3, .int (nI (5 * k))), (2, .ref (ad 70)), (1, .ref (ad 0)), (0, .ref b)] [] st := by
  obtain ⟨r, s1, s2, o1, o2, o3⟩ := ok_hand (N := 6000) (by decide) hI (xs (5 * k + 1))
  refine g_aload_n C dL_law_650 rfl 2 rfl ?_
  refine l_ld C hX hbl hbA (n := 1) (v := (1 : Int32)) (by omega) hLz rfl (by decide) 3 0 rfl rfl dL_law_651 dL_law_652 dL_law_653 dL_law_654 dL_law_655 ?_
  refine g_cV (As := [.int (xs (5 * k + 1))]) (rest := []) (stk2 := [.int r]) C mf_X7_hand ok7 rfl lk_L_78 in_X7_hand se_X7_hand dL_law_656 (prF_LAl 0 rfl) rfl rfl rfl rfl ⟨(Nat.le_of_ble_eq_true rfl), (Nat.le_of_ble_eq_true rfl)⟩ (Nat.le_of_ble_eq_true rfl) ⟨hcells, hslots⟩ (ct_X7_hand prF_LAl o1) ?_
  refine g_aload_n C dL_law_659 rfl 1 rfl ?_
  refine l_ld C hX hbl hbA (n := 1) (v := (1 : Int32)) (by omega) hLz rfl (by decide) 3 0 rfl rfl dL_law_660 dL_law_661 dL_law_662 dL_law_663 dL_law_664 ?_
  refine g_cV (As := [.int (xs (5 * k + 1))]) (rest := [.int r]) (stk2 := [.int r, .int r]) C mf_X8_hand ok8 rfl lk_L_81 in_X8_hand se_X8_hand dL_law_665 (prF_LAl 70 rfl) rfl rfl rfl rfl ⟨(Nat.le_of_ble_eq_true rfl), (Nat.le_of_ble_eq_true rfl)⟩ (Nat.le_of_ble_eq_true rfl) ⟨hcells, hslots⟩ (ct_X8_hand prF_LAl o2) ?_
  refine l_eqT (tgt := 742) C dL_law_668 (by decide) ?_
  exact hend _ o3
set_option maxHeartbeats 4000000 in
set_option maxRecDepth 100000 in
/-- the law at count -/
theorem law_count {p : Program} {l : Launch} {e : Env} {s : State} {m : MethodId} {below : List Frame} {meth : Method} {c : Code} {D : va_G} {cy : Nat → ClassId} {ad : Nat → Nat} {cells slots b Lz : Nat} {xs : Nat → Int32} (C : Cx p s m #[Value.ref b] c cL_law RL 4 D cy ad (fun q => s.heap.size ≤ q) LAl) (hLz : Lz ≤ 2560) (hcells : cells ≤ 600000) (hslots : slots ≤ 7302250) (hX : va_X b Lz xs s s.heap) (hbl : b < s.heap.size) (hbA : ¬ (fun q => s.heap.size ≤ q) b) {k : Nat} (h5 : 5 * k + 5 ≤ Lz) {st : St} (hI : Inv st) (hend : ∀ st : St, Inv st → Gm p l e room_1 s m #[Value.ref b] below meth c D cy ad (fun q => s.heap.size ≤ q) LAl 4 cells slots (lw_Z below #[Value.ref b] s) 742 [(3, .int (nI (5 * k))), (2, .ref (ad 70)), (1, .ref (ad 0)), (0, .ref b)] [] st) : Gm p l e room_1 s m #[Value.ref b] below meth c D cy ad (fun q => s.heap.size ≤ q) LAl 4 cells slots (lw_Z below #[Value.ref b] s) 673 [(3, .int (nI (5 * k))), (2, .ref (ad 70)), (1, .ref (ad 0)), (0, .ref b)] [] st := by
  obtain ⟨r, s1, s2, o1, o2, o3⟩ := ok_count (N := 6000) (by decide) hI (xs (5 * k + 1))
  refine g_aload_n C dL_law_673 rfl 2 rfl ?_
  refine l_ld C hX hbl hbA (n := 1) (v := (1 : Int32)) (by omega) hLz rfl (by decide) 3 0 rfl rfl dL_law_674 dL_law_675 dL_law_676 dL_law_677 dL_law_678 ?_
  refine g_cV (As := [.int (xs (5 * k + 1))]) (rest := []) (stk2 := [.int r]) C mf_X7_count ok7 rfl lk_L_82 in_X7_count se_X7_count dL_law_679 (prF_LAl 0 rfl) rfl rfl rfl rfl ⟨(Nat.le_of_ble_eq_true rfl), (Nat.le_of_ble_eq_true rfl)⟩ (Nat.le_of_ble_eq_true rfl) ⟨hcells, hslots⟩ (ct_X7_count prF_LAl o1) ?_
  refine g_aload_n C dL_law_682 rfl 1 rfl ?_
  refine l_ld C hX hbl hbA (n := 1) (v := (1 : Int32)) (by omega) hLz rfl (by decide) 3 0 rfl rfl dL_law_683 dL_law_684 dL_law_685 dL_law_686 dL_law_687 ?_
  refine g_cV (As := [.int (xs (5 * k + 1))]) (rest := [.int r]) (stk2 := [.int r, .int r]) C mf_X8_count ok8 rfl lk_L_85 in_X8_count se_X8_count dL_law_688 (prF_LAl 70 rfl) rfl rfl rfl rfl ⟨(Nat.le_of_ble_eq_true rfl), (Nat.le_of_ble_eq_true rfl)⟩ (Nat.le_of_ble_eq_true rfl) ⟨hcells, hslots⟩ (ct_X8_count prF_LAl o2) ?_
  refine l_eqT (tgt := 742) C dL_law_691 (by decide) ?_
  exact hend _ o3
set_option maxHeartbeats 4000000 in
set_option maxRecDepth 100000 in
/-- the law at image -/
theorem law_image {p : Program} {l : Launch} {e : Env} {s : State} {m : MethodId} {below : List Frame} {meth : Method} {c : Code} {D : va_G} {cy : Nat → ClassId} {ad : Nat → Nat} {cells slots b Lz : Nat} {xs : Nat → Int32} (C : Cx p s m #[Value.ref b] c cL_law RL 4 D cy ad (fun q => s.heap.size ≤ q) LAl) (hLz : Lz ≤ 2560) (hcells : cells ≤ 600000) (hslots : slots ≤ 7302250) (hX : va_X b Lz xs s s.heap) (hbl : b < s.heap.size) (hbA : ¬ (fun q => s.heap.size ≤ q) b) {k : Nat} (h5 : 5 * k + 5 ≤ Lz) {st : St} (hI : Inv st) (hend : ∀ st : St, Inv st → Gm p l e room_1 s m #[Value.ref b] below meth c D cy ad (fun q => s.heap.size ≤ q) LAl 4 cells slots (lw_Z below #[Value.ref b] s) 742 [(3, .int (nI (5 * k))), (2, .ref (ad 70)), (1, .ref (ad 0)), (0, .ref b)] [] st) : Gm p l e room_1 s m #[Value.ref b] below meth c D cy ad (fun q => s.heap.size ≤ q) LAl 4 cells slots (lw_Z below #[Value.ref b] s) 696 [(3, .int (nI (5 * k))), (2, .ref (ad 70)), (1, .ref (ad 0)), (0, .ref b)] [] st := by
  obtain ⟨r, s1, s2, o1, o2, o3⟩ := ok_image (N := 6000) (by decide) hI (xs (5 * k + 1))
  refine g_aload_n C dL_law_696 rfl 2 rfl ?_
  refine l_ld C hX hbl hbA (n := 1) (v := (1 : Int32)) (by omega) hLz rfl (by decide) 3 0 rfl rfl dL_law_697 dL_law_698 dL_law_699 dL_law_700 dL_law_701 ?_
  refine g_cV (As := [.int (xs (5 * k + 1))]) (rest := []) (stk2 := [.int r]) C mf_X7_image ok7 rfl lk_L_86 in_X7_image se_X7_image dL_law_702 (prF_LAl 0 rfl) rfl rfl rfl rfl ⟨(Nat.le_of_ble_eq_true rfl), (Nat.le_of_ble_eq_true rfl)⟩ (Nat.le_of_ble_eq_true rfl) ⟨hcells, hslots⟩ (ct_X7_image prF_LAl o1) ?_
  refine g_aload_n C dL_law_705 rfl 1 rfl ?_
  refine l_ld C hX hbl hbA (n := 1) (v := (1 : Int32)) (by omega) hLz rfl (by decide) 3 0 rfl rfl dL_law_706 dL_law_707 dL_law_708 dL_law_709 dL_law_710 ?_
  refine g_cV (As := [.int (xs (5 * k + 1))]) (rest := [.int r]) (stk2 := [.int r, .int r]) C mf_X8_image ok8 rfl lk_L_89 in_X8_image se_X8_image dL_law_711 (prF_LAl 70 rfl) rfl rfl rfl rfl ⟨(Nat.le_of_ble_eq_true rfl), (Nat.le_of_ble_eq_true rfl)⟩ (Nat.le_of_ble_eq_true rfl) ⟨hcells, hslots⟩ (ct_X8_image prF_LAl o2) ?_
  refine l_eqT (tgt := 742) C dL_law_714 (by decide) ?_
  exact hend _ o3
set_option maxHeartbeats 4000000 in
set_option maxRecDepth 100000 in
/-- the law at restore -/
theorem law_restore {p : Program} {l : Launch} {e : Env} {s : State} {m : MethodId} {below : List Frame} {meth : Method} {c : Code} {D : va_G} {cy : Nat → ClassId} {ad : Nat → Nat} {cells slots b Lz : Nat} {xs : Nat → Int32} (C : Cx p s m #[Value.ref b] c cL_law RL 4 D cy ad (fun q => s.heap.size ≤ q) LAl) (hLz : Lz ≤ 2560) (hcells : cells ≤ 600000) (hslots : slots ≤ 7302250) (hX : va_X b Lz xs s s.heap) (hbl : b < s.heap.size) (hbA : ¬ (fun q => s.heap.size ≤ q) b) {k : Nat} (h5 : 5 * k + 5 ≤ Lz) {st : St} (hI : Inv st) (hend : ∀ st : St, Inv st → Gm p l e room_1 s m #[Value.ref b] below meth c D cy ad (fun q => s.heap.size ≤ q) LAl 4 cells slots (lw_Z below #[Value.ref b] s) 742 [(3, .int (nI (5 * k))), (2, .ref (ad 70)), (1, .ref (ad 0)), (0, .ref b)] [] st) : Gm p l e room_1 s m #[Value.ref b] below meth c D cy ad (fun q => s.heap.size ≤ q) LAl 4 cells slots (lw_Z below #[Value.ref b] s) 719 [(3, .int (nI (5 * k))), (2, .ref (ad 70)), (1, .ref (ad 0)), (0, .ref b)] [] st := by
  obtain ⟨r, s1, s2, o1, o2, o3⟩ := ok_restore (N := 6000) (by decide) hI (xs (5 * k + 1))
  refine g_aload_n C dL_law_719 rfl 2 rfl ?_
  refine l_ld C hX hbl hbA (n := 1) (v := (1 : Int32)) (by omega) hLz rfl (by decide) 3 0 rfl rfl dL_law_720 dL_law_721 dL_law_722 dL_law_723 dL_law_724 ?_
  refine g_cV (As := [.int (xs (5 * k + 1))]) (rest := []) (stk2 := [.int r]) C mf_X7_restore ok7 rfl lk_L_90 in_X7_restore se_X7_restore dL_law_725 (prF_LAl 0 rfl) rfl rfl rfl rfl ⟨(Nat.le_of_ble_eq_true rfl), (Nat.le_of_ble_eq_true rfl)⟩ (Nat.le_of_ble_eq_true rfl) ⟨hcells, hslots⟩ (ct_X7_restore prF_LAl o1) ?_
  refine g_aload_n C dL_law_728 rfl 1 rfl ?_
  refine l_ld C hX hbl hbA (n := 1) (v := (1 : Int32)) (by omega) hLz rfl (by decide) 3 0 rfl rfl dL_law_729 dL_law_730 dL_law_731 dL_law_732 dL_law_733 ?_
  refine g_cV (As := [.int (xs (5 * k + 1))]) (rest := [.int r]) (stk2 := [.int r, .int r]) C mf_X8_restore ok8 rfl lk_L_93 in_X8_restore se_X8_restore dL_law_734 (prF_LAl 70 rfl) rfl rfl rfl rfl ⟨(Nat.le_of_ble_eq_true rfl), (Nat.le_of_ble_eq_true rfl)⟩ (Nat.le_of_ble_eq_true rfl) ⟨hcells, hslots⟩ (ct_X8_restore prF_LAl o2) ?_
  refine l_eqT (tgt := 742) C dL_law_737 (by decide) ?_
  exact hend _ o3
