theorem lor_add (l : List Nat) (v : Nat) : lor (l ++ [v]) = lor l ||| 2 ^ v := by
  unfold lor
  rw [List.foldl_append]
  rfl
theorem lor_b (l : List Nat) (x : Nat) : (lor l).testBit x = decide (x ∈ l) := by
  unfold lor
  rw [lor_bit]
  simp
theorem lor_lt {l : List Nat} (h : ∀ c, c ∈ l → c < 7) : lor l < 128 := by
  apply Nat.lt_of_not_le
  intro hle
  obtain ⟨i, i1, i2⟩ := Nat.exists_ge_and_testBit_of_ge_two_pow (n := 7) hle
  rw [lor_b] at i2
  have := h i (by simpa using i2)
  omega
theorem up_up {st : St} {k i : Nat} {x y : Int32} : up (up st k i x) k i y = up st k i y := by
  funext q
  simp only [up_row]
  by_cases h : q = k
  · simp only [if_pos h]
    funext j
    simp only [upd_app]
    split <;> rfl
  · simp only [if_neg h]
theorem sumR_bd {f : Nat → Nat} {B : Nat} : ∀ n, (∀ i, i < n → f i ≤ B) → sumR f n ≤ n * B := by
  intro n
  induction n with
  | zero => intro _; simp [sumR]
  | succ n ih =>
    intro h
    have h1 := ih (fun i hi => h i (by omega))
    have h2 := h n (by omega)
    show sumR f n + f n ≤ _
    rw [Nat.succ_mul]
    omega
theorem fcF_le {F : Nat} {cl : Nat → Nat} {fk : List (Option Nat × Nat × Option Nat)} : fcF fk (frL F cl) ≤ fk.length := by
  have := (fAll_le (fr := frL F cl) (fun a v => fz_le _ _ _) fk fk.length (Nat.le_refl _)).2.1
  rw [List.take_length] at this
  unfold fcF
  omega
theorem pcF_le {F v B : Nat} {cl b : Nat → Nat} (hb : ∀ i, b i ≤ B) : pcF b (frL F cl) v ≤ v * B := by
  unfold pcF
  apply sumR_bd
  intro i _
  have h1 := fz_le F (cl v) (cl i)
  have h2 := hb (v * 7 + i)
  unfold frL
  rcases (show fz F (cl v) (cl i) = 0 ∨ fz F (cl v) (cl i) = 1 by omega) with h | h
  · rw [h]; omega
  · rw [h]; omega
theorem psP_bd {F set : Nat} {b : Nat → Nat} {pre : List Nat} (hb : ∀ i, b i ≤ 100) (hl : pre.length ≤ (mems set).length) : psP F b (mems set) pre ≤ 4900 := by
  have hm := mems_len set
  have : psP F b (mems set) pre ≤ pre.length * 700 := by
    unfold psP
    apply sumR_bd
    intro j hj
    have h1 := pcF_le (F := F) (v := (mems set).getD j 0) (cl := clP (mems set) pre) hb
    have h2 := mems_lt (set := set) (k := j) (by omega)
    have h3 : (mems set).getD j 0 * 100 ≤ 700 := by omega
    omega
  omega
-- keeping a layout
def packK (ms row : List Nat) (i : Nat) : Nat := (ms.take i).foldl (fun u v => u ||| cellOf ms row v * 8 ^ v) 0
theorem packK_s {ms row : List Nat} {i : Nat} (h : i < ms.length) : packK ms row (i + 1) = packK ms row i ||| cellOf ms row (ms.getD i 0) * 8 ^ (ms.getD i 0) := by
  unfold packK
  rw [take_s h, List.foldl_append]
  rfl
theorem shl3 {c v : Nat} (hc : c < 8) (hv : v < 7) : nI c <<< ((nI v * (3 : Int32)) &&& 31) = nI (c * 8 ^ v) := by
  have : ∀ c, c < 8 → ∀ v, v < 7 → nI c <<< ((nI v * (3 : Int32)) &&& 31) = nI (c * 8 ^ v) := by decide +kernel
  exact this c hc v hv
theorem keep_lp {st : St} {set : Nat} {row : List Nat} (h4 : st 33 4 = nI (mems set).length) (h35 : ∀ j, j < (mems set).length → st 35 j = nI ((mems set).getD j 0)) (h34 : ∀ v, v < 8 → st 34 v = nI (clP (mems set) row v)) (hr : rowOk (mems set).length row) : ∀ (m i : Nat), i ≤ (mems set).length → (mems set).length - i < m → lp_X1_keep_7 m (nI i) (up st 33 6 (nI (packK (mems set) row i))) = some (up st 33 6 (nI (pack (mems set) row))) := by
  have hn := mems_len set
  intro m
  induction m with
  | zero => intro i h1 h2; omega
  | succ m ih =>
    intro i h1 h2
    change lpB_X1_keep_7 (lp_X1_keep_7 m) (nI i) _ = _
    unfold lpB_X1_keep_7
    have e4 : ∀ x, (up st 33 6 x) 33 4 = nI (mems set).length := fun x => by rw [up_row, if_pos rfl, upd_app, if_neg (by decide)]; exact h4
    have e6 : ∀ x, (up st 33 6 x) 33 6 = x := fun x => by rw [up_row, if_pos rfl, upd_app, if_pos rfl]
    have e35 : ∀ x, (up st 33 6 x) 35 = st 35 := fun x => by rw [up_row, if_neg (by decide)]
    have e34 : ∀ x, (up st 33 6 x) 34 = st 34 := fun x => by rw [up_row, if_neg (by decide)]
    rw [e4]
    by_cases hi : i = (mems set).length
    · rw [if_pos (by rw [hi]; exact nI_le (Nat.le_refl _) (by omega)), hi]
      unfold packK
      rw [List.take_length]
      rfl
    · have hi2 : i < (mems set).length := by omega
      rw [if_neg (nI_ge hi2 (by omega))]
      have hv := mems_lt hi2
      have hb := mems_bit hi2
      have hc := clP_lt hr.1 hr.2 hv hb
      have hc8 : clP (mems set) row ((mems set).getD i 0) < 8 := by omega
      have ei := h35 i hi2
      have ev := h34 ((mems set).getD i 0) (by omega)
      have es := shl3 hc8 hv
      simp (disch := omega) only [lt_eq, e35, e34, e6, ck_in, nI_clamp, ei, ev, es, nI_or, nI_1, up_up]
      rw [hc.1, ← packK_s hi2]
      exact ih (i + 1) (by omega) (by omega)
theorem keepX {st : St} {set N : Nat} {row : List Nat} (hN : 129 ≤ N) (h4 : st 33 4 = nI (mems set).length) (h35 : ∀ j, j < (mems set).length → st 35 j = nI ((mems set).getD j 0)) (h34 : ∀ v, v < 8 → st 34 v = nI (clP (mems set) row v)) (hr : rowOk (mems set).length row) : F_X1_keep N st = some (up st 33 6 (nI (pack (mems set) row))) := by
  have hn := mems_len set
  unfold F_X1_keep
  rw [lt_eq, lt_eq]
  exact keep_lp h4 h35 h34 hr N 0 (by omega) (by omega)
-- symmetries
def swp (x y z : Nat) : Nat := if z = x then y else if z = y then x else z
theorem swp_inj {x y a b : Nat} (h : swp x y a = swp x y b) : a = b := by
  unfold swp at h
  split at h <;> split at h <;> (try split at h) <;> (try split at h) <;> omega
def lvC (n k : Nat) (pre : List Nat) (c : Nat) : List (List Nat) := (List.range c).flatMap (fun c => if pre.contains c then [] else lvs n k (pre ++ [c]))
theorem lvC_s {n k c : Nat} {pre : List Nat} : lvC n k pre (c + 1) = lvC n k pre c ++ (if pre.contains c then [] else lvs n k (pre ++ [c])) := by
  unfold lvC
  rw [List.range_succ, List.flatMap_append]
  simp
def preOk (n : Nat) (pre : List Nat) : Prop := (∀ c, c ∈ pre → c < n) ∧ pre.Nodup
theorem preOk.add {n c : Nat} {pre : List Nat} (h : preOk n pre) (hc : c < n) (hn : c ∉ pre) : preOk n (pre ++ [c]) := by
  refine ⟨?_, ?_⟩
  · intro d hd
    rcases List.mem_append.mp hd with hd | hd
    · exact h.1 d hd
    · rw [List.mem_singleton.mp hd]; exact hc
  · rw [List.nodup_append]
    refine ⟨h.2, by simp, ?_⟩
    intro a ha b hb
    rw [List.mem_singleton.mp hb]
    rintro rfl
    exact hn ha
theorem lvC_mem {n k c : Nat} {pre l : List Nat} (hk : pre.length + (k + 1) = n) (hp : preOk n pre) (hl : isP n l) (ht : l.take pre.length = pre) (hc : l.getD pre.length 0 < c) (hcn : c ≤ n) : l ∈ lvC n k pre c := by
  have hlt : pre.length < l.length := by rw [hl.1]; omega
  have hmem : l.getD pre.length 0 ∈ l := getD_mem hlt
  have hts := take_s hlt
  rw [ht] at hts
  have hnot : l.getD pre.length 0 ∉ pre := by
    intro hin
    have hin2 : l.getD pre.length 0 ∈ l.take pre.length := by rw [ht]; exact hin
    obtain ⟨j, hj1, hj2⟩ := List.mem_iff_getElem.mp hin2
    rw [List.getElem_take] at hj2
    have hj3 : j < pre.length := by rw [List.length_take] at hj1; omega
    have := nodup_inj hl.2.2 (i := j) (j := pre.length) (by omega) hlt (by
      rw [List.getD_eq_getElem?_getD, List.getElem?_eq_getElem (show j < l.length by omega)]
      exact hj2)
    omega
  unfold lvC
  rw [List.mem_flatMap]
  refine ⟨l.getD pre.length 0, List.mem_range.mpr hc, ?_⟩
  rw [if_neg (by simpa using hnot)]
  have hp2 := hp.add (c := l.getD pre.length 0) (by omega) hnot
  refine (lvs_iff k _ l (by rw [List.length_append, List.length_singleton]; omega) hp2.1 hp2.2).mpr ⟨hl, ?_⟩
  rw [List.length_append, List.length_singleton]
  exact hts
theorem skip_c {n k c : Nat} {pre : List Nat} {val : List Nat → Nat} {a : BA} (hk : pre.length + (k + 1) = n) (hp : preOk n pre) (hcn : c < n) (h : ∀ l, l ∈ lvs n k (pre ++ [c]) → ∃ l', isP n l' ∧ l'.take pre.length = pre ∧ l'.getD pre.length 0 < c ∧ val l' = val l) : (lvC n k pre (c + 1)).foldl (fB val) a = (lvC n k pre c).foldl (fB val) a := by
  rw [lvC_s, List.foldl_append]
  split
  · rfl
  · apply fB_skip
    intro l hl
    obtain ⟨l', h1, h2, h3, h4⟩ := h l hl
    rw [← h4]
    exact (fB_le _ _).2 l' (lvC_mem hk hp h1 h2 h3 (by omega))
theorem leaf_c {n k c : Nat} {pre l : List Nat} (hk : pre.length + (k + 1) = n) (hp : preOk n pre) (hc : c < n) (hn : c ∉ pre) (hl : l ∈ lvs n k (pre ++ [c])) : isP n l ∧ l.take pre.length = pre ∧ l.getD pre.length 0 = c ∧ l.take (pre ++ [c]).length = pre ++ [c] := by
  have hp2 := hp.add hc hn
  obtain ⟨h1, h2⟩ := (lvs_iff k _ l (by rw [List.length_append, List.length_singleton]; omega) hp2.1 hp2.2).mp hl
  have hlt : pre.length < l.length := by rw [h1.1]; omega
  have ht : l.take pre.length = pre := by
    have := congrArg (List.take pre.length) h2
    rw [List.take_take, List.length_append, List.take_left' rfl, Nat.min_eq_left (by omega)] at this
    exact this
  refine ⟨h1, ht, ?_, h2⟩
  have h3 := take_s hlt
  rw [ht] at h3
  rw [List.length_append, List.length_singleton, h3] at h2
  have := List.append_cancel_left h2
  simpa using this
theorem twin_skip {F n k c c' set : Nat} {T : TS} {pre : List Nat} {a : BA} (hn : n ≤ 7) (hk : pre.length + (k + 1) = n) (hp : preOk n pre) (hc : c < n) (hcp : c ∉ pre) (hlt : c' < c) (hcp' : c' ∉ pre) (ht : ∀ d, d < n → d ≠ c → d ≠ c' → fz F d c' = fz F d c) : (lvC n k pre (c + 1)).foldl (fB (vlP F T (mems set))) a = (lvC n k pre c).foldl (fB (vlP F T (mems set))) a := by
  refine skip_c hk hp hc (fun l hl => ?_)
  obtain ⟨h1, h2, h3, -⟩ := leaf_c hk hp hc hcp hl
  have hsw : ∀ x, x < n → swp c' c x < n := by
    intro x hx
    unfold swp
    split
    · exact hc
    · split
      · omega
      · exact hx
  have hlen : pre.length < l.length := by rw [h1.1]; omega
  refine ⟨l.map (swp c' c), isP_map h1 hsw (fun x y _ _ => swp_inj), ?_, ?_, ?_⟩
  · rw [← List.map_take, h2]
    have : ∀ x, x ∈ pre → swp c' c x = id x := by
      intro x hx
      unfold swp
      rw [if_neg (fun e : x = c' => hcp' (e ▸ hx)), if_neg (fun e : x = c => hcp (e ▸ hx))]
      rfl
    rw [List.map_congr_left this, List.map_id]
  · rw [map_getD hlen, h3]
    unfold swp
    rw [if_neg (by omega), if_pos rfl]
    exact hlt
  · refine vl_sym hn h1.2.1 hsw ?_
    intro x y hx hy
    have hs := fz_sym F
    unfold swp
    by_cases x1 : x = c'
    · rw [if_pos x1]
      by_cases y1 : y = c'
      · rw [if_pos y1, x1, y1]
        unfold fz
        simp [far_self]
      · rw [if_neg y1]
        by_cases y2 : y = c
        · rw [if_pos y2, x1, y2, hs]
        · rw [if_neg y2, x1, hs c y, hs c' y, ht y hy y2 y1]
    · rw [if_neg x1]
      by_cases x2 : x = c
      · rw [if_pos x2]
        by_cases y1 : y = c'
        · rw [if_pos y1, x2, y1, hs]
        · rw [if_neg y1]
          by_cases y2 : y = c
          · rw [if_pos y2, x2, y2]
            unfold fz
            simp [far_self]
          · rw [if_neg y2, x2, hs c' y, hs c y, ht y hy y2 y1]
      · rw [if_neg x2]
        by_cases y1 : y = c'
        · rw [if_pos y1, y1, ht x hx x2 x1]
        · rw [if_neg y1]
          by_cases y2 : y = c
          · rw [if_pos y2, y2, ht x hx x2 x1]
          · rw [if_neg y2]
theorem mirror_skip {F n k set : Nat} {T : TS} {a : BA} (hn : n ≤ 7) (hk : k + 1 = n) : ∀ d c, (n + 1) / 2 ≤ c → c + d = n → (lvC n k [] n).foldl (fB (vlP F T (mems set))) a = (lvC n k [] c).foldl (fB (vlP F T (mems set))) a := by
  intro d
  induction d with
  | zero => intro c h1 h2; rw [show c = n by omega]
  | succ d ih =>
    intro c h1 h2
    rw [ih (c + 1) (by omega) (by omega)]
    have hp : preOk n [] := ⟨fun c hc => (by cases hc), List.nodup_nil⟩
    refine skip_c (by simp; omega) hp (by omega) (fun l hl => ?_)
    obtain ⟨b1, b2, b3, -⟩ := leaf_c (pre := []) (by simp; omega) hp (by omega) (by simp) hl
    have hlen : (0 : Nat) < l.length := by rw [b1.1]; omega
    refine ⟨l.map (fun x => n - 1 - x), isP_map b1 (fun x hx => by omega) (fun x y hx hy e => by omega), rfl, ?_, ?_⟩
    · rw [show ([] : List Nat).length = 0 from rfl, map_getD hlen]
      rw [show ([] : List Nat).length = 0 from rfl] at b3
      rw [b3]
      omega
    · refine vl_sym hn b1.2.1 (fun x hx => by omega) ?_
      intro x y hx hy
      unfold fz
      have e : far F (n - 1 - x) (n - 1 - y) = far F x y := by
        unfold far
        by_cases h : x = y
        · subst h; simp
        · have h3 : n - 1 - x ≠ n - 1 - y := by omega
          have h4 : (if n - 1 - x < n - 1 - y then n - 1 - y - (n - 1 - x) else n - 1 - x - (n - 1 - y)) = (if x < y then y - x else x - y) := by
            split <;> split <;> omega
          rw [h4]
          simp [h, h3]
      rw [e]
      have q1 : x < 7 := by omega
      have q2 : y < 7 := by omega
      have q3 : n - 1 - x < 7 := by omega
      have q4 : n - 1 - y < 7 := by omega
      simp [q1, q2, q3, q4]
