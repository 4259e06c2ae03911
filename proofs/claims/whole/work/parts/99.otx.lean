/-! ===== the output text: numbers, and the class's text ===== -/
/-- a number's digits, the last first -/
def tz_bk (a : Int) : List Int := if a < 10 then [48 + a] else if a < 100 then [48 + a % 10, 48 + a / 10] else if a < 1000 then [48 + a % 10, 48 + a / 10 % 10, 48 + a / 100] else if a < 10000 then [48 + a % 10, 48 + a / 10 % 10, 48 + a / 100 % 10, 48 + a / 1000] else [48 + a % 10, 48 + a / 10 % 10, 48 + a / 100 % 10, 48 + a / 1000 % 10, 48 + a / 10000]
/-- a number's characters, the last first -/
def tz_bv (v : Int) : List Int := if v < 0 then tz_bk (-v) ++ [45] else tz_bk v
def tz_num (v : Int) : List Int := (tz_bv v).reverse
def tz_ck (t : List Int) : Prop := ∀ c ∈ t, 32 ≤ c ∧ c ≤ 126
/-- characters written from a place downwards -/
def tz_wbk : List Int → ts_M → Int → ts_M
  | [], m, _ => m
  | c :: l, m, e => tz_wbk l (ts_si m 178 (e - 1) c) (e - 1)
/-- the class's text -/
def tz_OB (M0 : ts_M) (t : List Int) (m : ts_M) : Prop := (∀ a : Nat, a ≠ 177 → a ≠ 178 → m.1 a = M0.1 a) ∧ m.2 = M0.2 ∧ m.1 177 0 = (t.length : Int) ∧ (m.1 177 2 = 16 ∨ m.1 177 2 = 34 ∨ m.1 177 2 = 70) ∧ 0 ≤ m.1 177 3 ∧ m.1 177 4 = -1 ∧ (t.length : Int) ≤ m.1 177 2 ∧ ∀ j : Nat, j < t.length → m.1 178 (j : Int) = t.getD j 0
section TLO
variable {a b c e p q s v : Int} {i j n : Nat} {t l : List Int} {Q : Int → ts_M → Prop} {Qv : ts_M → Prop} {M M0 m : ts_M}
theorem tz_bk_len (h : 0 ≤ a ∧ a ≤ 99999) : 1 ≤ (tz_bk a).length ∧ (tz_bk a).length ≤ 5 := by
  unfold tz_bk
  split
  · simp
  split
  · simp
  split
  · simp
  split <;> simp
theorem tz_bk_ck (h : 0 ≤ a ∧ a ≤ 99999) : ∀ c ∈ tz_bk a, 48 ≤ c ∧ c ≤ 57 := by
  intro c hc
  unfold tz_bk at hc
  split at hc
  · simp only [List.mem_cons, List.mem_nil_iff, or_false] at hc; omega
  split at hc
  · simp only [List.mem_cons, List.mem_nil_iff, or_false] at hc; omega
  split at hc
  · simp only [List.mem_cons, List.mem_nil_iff, or_false] at hc; omega
  split at hc
  · simp only [List.mem_cons, List.mem_nil_iff, or_false] at hc; omega
  · simp only [List.mem_cons, List.mem_nil_iff, or_false] at hc; omega
theorem tz_bv_len (h : -99999 ≤ v ∧ v ≤ 99999) : 1 ≤ (tz_bv v).length ∧ (tz_bv v).length ≤ 6 := by
  unfold tz_bv
  split
  · have := tz_bk_len (a := -v) (by omega)
    rw [List.length_append, List.length_singleton]
    omega
  · have := tz_bk_len (a := v) (by omega)
    omega
theorem tz_num_len (h : -99999 ≤ v ∧ v ≤ 99999) : 1 ≤ (tz_num v).length ∧ (tz_num v).length ≤ 6 := by
  unfold tz_num
  rw [List.length_reverse]
  exact tz_bv_len h
theorem tz_num_ck (h : -99999 ≤ v ∧ v ≤ 99999) : tz_ck (tz_num v) := by
  intro c hc
  unfold tz_num at hc
  rw [List.mem_reverse] at hc
  unfold tz_bv at hc
  split at hc
  · rcases List.mem_append.mp hc with hc | hc
    · have := tz_bk_ck (a := -v) (by omega) c hc; omega
    · rw [List.mem_singleton] at hc; omega
  · have := tz_bk_ck (a := v) (by omega) c hc; omega
theorem tz_ck_app (h1 : tz_ck t) (h2 : tz_ck l) : tz_ck (t ++ l) := fun c hc => by
  rcases List.mem_append.mp hc with h | h
  · exact h1 c h
  · exact h2 c h
theorem tz_ck_1 (h : 32 ≤ c ∧ c ≤ 126) : tz_ck [c] := fun x hx => by
  rw [List.mem_singleton] at hx
  rw [hx]; exact h
/-! writing downwards -/
theorem tz_wbk_o : ∀ {l : List Int} {m : ts_M} {e : Int}, (tz_wbk l m e).2 = m.2 ∧ (∀ a : Nat, a ≠ 178 → (tz_wbk l m e).1 a = m.1 a) ∧ ∀ j : Int, ¬ (e - (l.length : Int) ≤ j ∧ j < e) → (tz_wbk l m e).1 178 j = m.1 178 j
  | [], m, e => ⟨rfl, fun _ _ => rfl, fun _ _ => rfl⟩
  | c :: l, m, e => by
    obtain ⟨h1, h2, h3⟩ := tz_wbk_o (l := l) (m := ts_si m 178 (e - 1) c) (e := e - 1)
    refine ⟨h1, fun a ha => ?_, fun j hj => ?_⟩
    · show (tz_wbk l (ts_si m 178 (e - 1) c) (e - 1)).1 a = _
      rw [h2 a ha, ts_si_ne ha]
    · rw [List.length_cons] at hj
      show (tz_wbk l (ts_si m 178 (e - 1) c) (e - 1)).1 178 j = _
      rw [h3 j (by omega), tz_si_k (by omega)]
theorem tz_wbk_i : ∀ {l : List Int} {m : ts_M} {e : Int} {j : Nat}, j < l.length → (tz_wbk l m e).1 178 (e - 1 - (j : Int)) = l.getD j 0
  | [], _, _, _, h => absurd h (by simp)
  | c :: l, m, e, j, h => by
    show (tz_wbk l (ts_si m 178 (e - 1) c) (e - 1)).1 178 (e - 1 - (j : Int)) = _
    cases j with
    | zero =>
      obtain ⟨_, _, h3⟩ := tz_wbk_o (l := l) (m := ts_si m 178 (e - 1) c) (e := e - 1)
      rw [h3 _ (by omega), show e - 1 - ((0 : Nat) : Int) = e - 1 by omega, tz_si_a]
      rfl
    | succ j =>
      rw [List.length_cons] at h
      have := tz_wbk_i (l := l) (m := ts_si m 178 (e - 1) c) (e := e - 1) (j := j) (by omega)
      rw [show e - 1 - ((j + 1 : Nat) : Int) = e - 1 - 1 - (j : Int) by omega, this]
      rfl
theorem tz_gD_rev (h : j < l.length) : l.reverse.getD j 0 = l.getD (l.length - 1 - j) 0 := by
  rw [List.getD_eq_getElem?_getD, List.getD_eq_getElem?_getD, List.getElem?_reverse h]
/-- a text with more behind it -/
theorem tz_OB_wb (hO : tz_OB M0 t m) (he : e = (t.length : Int) + (l.length : Int)) (h2 : e ≤ m.1 177 2) : tz_OB M0 (t ++ l.reverse) (ts_si (tz_wbk l m e) 177 0 e) := by
  obtain ⟨o1, o2, o3, o4, o5, o6, o7, o8⟩ := hO
  obtain ⟨w1, w2, w3⟩ := tz_wbk_o (l := l) (m := m) (e := e)
  have hl : ((t ++ l.reverse).length : Int) = e := by rw [List.length_append, List.length_reverse]; omega
  have k : ∀ j : Int, j ≠ 0 → (ts_si (tz_wbk l m e) 177 0 e).1 177 j = m.1 177 j := fun j hj => by rw [tz_si_k hj, w2 177 (by decide)]
  refine ⟨fun a h3 h4 => ?_, w1.trans o2, ?_, ?_, ?_, ?_, ?_, fun j hj => ?_⟩
  · rw [ts_si_ne h3, w2 a h4]; exact o1 a h3 h4
  · rw [hl]; exact tz_si_a
  · rw [k 2 (by decide)]; exact o4
  · rw [k 3 (by decide)]; exact o5
  · rw [k 4 (by decide)]; exact o6
  · rw [hl, k 2 (by decide)]; exact h2
  · rw [ts_si_ne (by decide)]
    rw [List.length_append, List.length_reverse] at hj
    by_cases c1 : j < t.length
    · rw [tz_gD_l c1, w3 (j : Int) (by omega)]; exact o8 j c1
    · rw [tz_gD_r (by omega), tz_gD_rev (by omega), ← tz_wbk_i (l := l) (m := m) (e := e) (j := l.length - 1 - (j - t.length)) (by omega)]
      rw [show e - 1 - ((l.length - 1 - (j - t.length) : Nat) : Int) = (j : Int) by omega]
/-! the class's text grows -/
theorem tz_sh143 : ∀ a : Fin 143, ts_shl (a.val : Int) 0 = (a.val : Int) ∧ ts_shr (a.val : Int) 0 = (a.val : Int) := by decide +kernel
theorem tz_shl0 (h : 0 ≤ a ∧ a < 143) : ts_shl a 0 = a ∧ ts_shr a 0 = a := by
  obtain ⟨u, eu⟩ : ∃ u : Nat, a = (u : Int) := ⟨_, (Int.toNat_of_nonneg h.1).symm⟩
  rw [eu]
  exact tz_sh143 ⟨u, by omega⟩
theorem tc_max (h1 : ts_w a = a) (h2 : ts_w b = b) : wJ9_max_7cf53 a b Q M ↔ Q (if a < b then b else a) M := by
  unfold wJ9_max_7cf53 wJ9_max_7cf53_B10
  rw [h1, h2]
  by_cases c1 : a < b
  · constructor
    · intro h; rw [if_pos c1]; first | exact h.1 c1 | exact h.2 (by omega)
    · intro h; rw [if_pos c1] at h; refine ⟨fun c2 => ?_, fun c2 => ?_⟩ <;> first | exact h | omega
  · constructor
    · intro h; rw [if_neg c1]; first | exact h.2 c1 | exact h.1 (by omega)
    · intro h; rw [if_neg c1] at h; refine ⟨fun c2 => ?_, fun c2 => ?_⟩ <;> first | exact h | omega
/-- the text's new array -/
theorem tc_grow {cap c2 : Int} (hO : tz_OB M0 t m) (hc : m.1 177 2 = cap) (h2 : (cap = 16 ∧ c2 = 34) ∨ (cap = 34 ∧ c2 = 70)) (hQ : ∀ (r : Int) (m' : ts_M), 0 ≤ r → m'.1 177 4 = r → tz_OB M0 t (ts_swp m') → (ts_swp m').1 177 2 = c2 → Q r m') : wJ7_copyOf_9075b (m.1 177 3) c2 Q m := by
  obtain ⟨o1, o2, o3, o4, o5, o6, o7, o8⟩ := hO
  unfold wJ7_copyOf_9075b
  rw [hc, tz_n (x := cap) (by omega) (by omega), tz_n (x := c2) (by omega) (by omega)]
  refine ⟨⟨rfl, by omega⟩, fun _ => ⟨⟨by omega, by omega, by omega⟩, ?_⟩, fun h => absurd h (by omega)⟩
  intro q1 M2 hq e2
  have n3 : M2.1 177 3 = m.1 177 3 := by rw [e2]; rfl
  have n2 : M2.1 177 2 = cap := by rw [e2, ← hc]; rfl
  have n4 : M2.1 177 4 = q1 := by rw [e2]; rfl
  have n5 : M2.1 177 5 = c2 := by rw [e2]; rfl
  have n0 : M2.1 177 0 = m.1 177 0 := by rw [e2]; rfl
  have nb : ∀ j : Int, 0 ≤ j → M2.1 178 j = m.1 178 j := fun j hj => by
    rw [e2]
    show (if (178 : Nat) = 177 ∧ j = 4 then q1 else if (178 : Nat) = 177 ∧ j = 5 then c2 else if (178 : Nat) = 178 ∧ j < 0 then 0 else m.1 178 j) = _
    rw [if_neg (fun h => absurd h.1 (by decide) : ¬ ((178 : Nat) = 177 ∧ j = 4)), if_neg (by intro h; exact absurd h.1 (by decide)), if_neg (by omega)]
  have na : ∀ a : Nat, a ≠ 177 → a ≠ 178 → M2.1 a = m.1 a := fun a h3 h4 => by
    rw [e2]; funext j
    show (if a = 177 ∧ j = 4 then q1 else if a = 177 ∧ j = 5 then c2 else if a = 178 ∧ j < 0 then 0 else m.1 a j) = _
    rw [if_neg (fun h => h3 h.1), if_neg (fun h => h3 h.1), if_neg (fun h => h4 h.1)]
  have nn : M2.2 = m.2 := by rw [e2]; rfl
  rw [n2, n3]
  refine ⟨⟨rfl, by omega⟩, ?_⟩
  refine (tc_min (tz_n (by omega) (by omega)) (tz_n (by omega) (by omega))).mpr ?_
  rw [if_neg (by omega), n2, n3, n4, n5, tz_n (x := cap) (by omega) (by omega)]
  refine ⟨⟨rfl, rfl, hq, by omega, by omega, by omega⟩, ?_⟩
  intro M5 e5
  have b177 : M5.1 177 = M2.1 177 := by 
    rw [e5]; funext j
    show (if (177 : Nat) = 178 ∧ j < 0 ∧ -1 - j < cap then M2.1 178 (-1 - j) else M2.1 177 j) = _
    exact if_neg (fun h => absurd h.1 (by decide))
  have ba : ∀ a : Nat, a ≠ 178 → M5.1 a = M2.1 a := fun a h4 => by rw [e5]; funext j; exact if_neg (fun h => h4 h.1)
  have bb : ∀ j : Int, 0 ≤ j → j < cap → M5.1 178 (-1 - j) = M2.1 178 j := fun j h3 h4 => by
    rw [e5]
    show (if (178 : Nat) = 178 ∧ -1 - j < 0 ∧ -1 - (-1 - j) < cap then M2.1 178 (-1 - (-1 - j)) else M2.1 178 (-1 - j)) = _
    rw [if_pos ⟨rfl, by omega, by omega⟩, show -1 - (-1 - j) = j by omega]
  have bn : M5.2 = m.2 := by rw [e5]; exact nn
  have s3 : (ts_swp M5).1 177 3 = q1 := by show M5.1 177 4 = q1; rw [b177, n4]
  have s2 : (ts_swp M5).1 177 2 = c2 := by show M5.1 177 5 = c2; rw [b177, n5]
  have s4 : (ts_swp M5).1 177 4 = -1 := rfl
  have s0 : (ts_swp M5).1 177 0 = m.1 177 0 := by show M5.1 177 0 = _; rw [b177, n0]
  have sb : ∀ j : Int, 0 ≤ j → (ts_swp M5).1 178 j = M5.1 178 (-1 - j) := fun j hj => by
    show (if (178 : Nat) = 177 ∧ j = 3 then M5.1 177 4 else if (178 : Nat) = 177 ∧ j = 2 then M5.1 177 5 else if (178 : Nat) = 177 ∧ j = 4 then -1 else if (178 : Nat) = 178 then (if 0 ≤ j then M5.1 178 (-1 - j) else 0) else M5.1 178 j) = _
    rw [if_neg (fun h => absurd h.1 (by decide)), if_neg (fun h => absurd h.1 (by decide)), if_neg (fun h => absurd h.1 (by decide)), if_pos rfl, if_pos hj]
  have sa : ∀ a : Nat, a ≠ 177 → a ≠ 178 → (ts_swp M5).1 a = M5.1 a := fun a h3 h4 => by
    funext j
    show (if a = 177 ∧ j = 3 then M5.1 177 4 else if a = 177 ∧ j = 2 then M5.1 177 5 else if a = 177 ∧ j = 4 then -1 else if a = 178 then (if 0 ≤ j then M5.1 178 (-1 - j) else 0) else M5.1 a j) = _
    rw [if_neg (fun h => h3 h.1), if_neg (fun h => h3 h.1), if_neg (fun h => h3 h.1), if_neg h4]
  refine hQ q1 M5 hq (by rw [b177, n4]) ⟨fun a h3 h4 => ?_, bn.trans o2, ?_, ?_, ?_, s4, ?_, fun j hj => ?_⟩ s2
  · rw [sa a h3 h4, ba a h4, na a h3 h4]; exact o1 a h3 h4
  · rw [s0]; exact o3
  · rw [s2]; omega
  · rw [s3]; exact hq
  · rw [s2]; omega
  · rw [sb (j : Int) (by omega), bb (j : Int) (by omega) (by omega), nb (j : Int) (by omega)]; exact o8 j hj
theorem tc_ens (hO : tz_OB M0 t m) (h1 : 0 ≤ p ∧ p ≤ 70) (h3 : p ≤ (t.length : Int) + 10) (hQ : ∀ m' : ts_M, tz_OB M0 t m' → p ≤ m'.1 177 2 → Qv m') : wJ5_ensureCapacityInternal_d00df p Qv m := by
  have hO' := hO
  obtain ⟨o1, o2, o3, o4, o5, o6, o7, o8⟩ := hO'
  unfold wJ5_ensureCapacityInternal_d00df wJ5_ensureCapacityInternal_d00df_B38
  intro q1 e1
  refine ⟨⟨e1, by omega⟩, ?_⟩
  intro x2 e2
  rw [(tz_shl0 (a := m.1 177 2) (by omega)).2] at e2
  rw [e2, tz_n (x := p - m.1 177 2) (by omega) (by omega)]
  refine ⟨fun c => hQ m hO (by omega), fun c => ?_⟩
  intro q3 e3
  obtain ⟨c2, hc2⟩ : ∃ c2 : Int, (m.1 177 2 = 16 ∧ c2 = 34) ∨ (m.1 177 2 = 34 ∧ c2 = 70) := by
    rcases o4 with h | h | h
    · exact ⟨34, Or.inl ⟨h, rfl⟩⟩
    · exact ⟨70, Or.inr ⟨h, rfl⟩⟩
    · exact absurd h1.2 (by omega)
  unfold wJ5_newCapacity_0f7a4
  intro q4 e4
  refine ⟨⟨e4, by omega⟩, ?_⟩
  intro x5 e5 x6 e6 x7 e7
  rw [(tz_shl0 (a := p) (by omega)).1] at e6
  rw [show ts_shl 2 0 = 2 from (tz_shl0 (a := 2) (by decide)).1]
  unfold wJ8_newLength_cabcc
  refine (tc_max (tz_n (by omega) (by omega)) (tz_n (by omega) (by omega))).mpr ?_
  intro x8 e8
  have e9 : x8 = c2 := by
    rw [e8]
    split <;> omega
  rw [e9, tz_n (x := c2) (by omega) (by omega)]
  refine ⟨fun h => absurd h (by omega), fun _ => ⟨fun h => absurd h (by omega), fun _ => ?_⟩⟩
  intro x9 e10
  rw [e10, tz_n (x := c2) (by omega) (by omega)]
  refine ⟨fun _ => ?_, fun h => absurd h (by omega)⟩
  dsimp only
  rw [(tz_shl0 (a := c2) (by omega)).2, (tz_shl0 (a := c2) (by omega)).1, e3]
  refine tc_grow hO rfl hc2 (fun r m' hr hm hO2 hcap => ?_)
  refine ⟨⟨hm.symm, hr⟩, ?_⟩
  intro M8 e11
  rw [e11]
  exact hQ _ hO2 (by omega)
theorem tc_lat (hQ : Q 1 M) : wJ5_isLatin1_aae02 Q M := by
  unfold wJ5_isLatin1_aae02 wJ5_isLatin1_aae02_B17 wJ5_isLatin1_aae02_B18
  exact ⟨fun h => absurd h (by decide), fun _ => ⟨fun h => absurd rfl h, fun _ => ⟨Or.inr tz_n1, hQ⟩⟩⟩
theorem tz_b127 : ∀ a : Fin 127, ts_nar .byte (ts_i2b (a.val : Int)) = (a.val : Int) ∧ ts_nar .byte (a.val : Int) = (a.val : Int) ∧ ts_i2c (ts_and (a.val : Int) 255) = (a.val : Int) ∧ ts_nar .char (ts_i2c (a.val : Int)) = (a.val : Int) := by decide +kernel
theorem tz_by (h : 0 ≤ c ∧ c ≤ 126) : ts_nar .byte (ts_i2b c) = c ∧ ts_nar .byte c = c ∧ ts_i2c (ts_and c 255) = c ∧ ts_nar .char (ts_i2c c) = c := by
  obtain ⟨u, eu⟩ : ∃ u : Nat, c = (u : Int) := ⟨_, (Int.toNat_of_nonneg h.1).symm⟩
  rw [eu]
  exact tz_b127 ⟨u, by omega⟩
/-- a character is appended -/
theorem tc_apc (hO : tz_OB M0 t m) (hc : 32 ≤ c ∧ c ≤ 126) (hl : t.length < 70) (hQ : ∀ m' : ts_M, tz_OB M0 (t ++ [c]) m' → Qv m') : wJ4_append_cf468 c Qv m := by
  unfold wJ4_append_cf468 wJ5_append_3fe6f wJ5_append_3fe6f_B75
  have o3 := hO.2.2.1
  rw [o3]
  refine tc_ens hO (by omega) (by omega) (fun m1 hO1 hcap => ?_)
  refine tc_lat ?_
  rw [tz_n1]
  refine ⟨fun h => absurd h (by decide), fun _ => ?_⟩
  unfold wJ1_canEncode_fc78d wJ1_canEncode_fc78d_B12
  rw [tz_n (x := c) (by omega) (by omega)]
  refine ⟨fun h => absurd h (by omega), fun _ => ⟨Or.inr tz_n1, ?_⟩⟩
  dsimp only
  rw [tz_n1]
  refine ⟨fun h => absurd h (by decide), fun _ => ?_⟩
  intro q10 e10 M11 e11
  have p0 : m1.1 177 0 = (t.length : Int) := hO1.2.2.1
  rw [p0] at e11 ⊢
  rw [tz_n (x := (t.length : Int)) (by omega) (by omega), e11, tz_si_k (by decide), tz_si_k (by decide)]
  refine ⟨⟨e10, by omega, by omega⟩, ?_⟩
  intro M12 e12
  rw [(tz_by (c := c) (by omega)).1] at e12
  refine hQ M12 ?_
  have h2 := tz_OB_wb (l := [c]) (e := (t.length : Int) + 1) hO1 rfl hcap
  have e13 : M12 = ts_si (tz_wbk [c] m1 ((t.length : Int) + 1)) 177 0 ((t.length : Int) + 1) := by
    rw [e12]
    show _ = ts_si (ts_si m1 178 ((t.length : Int) + 1 - 1) c) 177 0 ((t.length : Int) + 1)
    rw [show (t.length : Int) + 1 - 1 = (t.length : Int) by omega]
    refine Prod.ext ?_ rfl
    funext a j
    show (if a = 178 ∧ j = (t.length : Int) then c else if a = 177 ∧ j = 0 then (t.length : Int) + 1 else m1.1 a j) = (if a = 177 ∧ j = 0 then (t.length : Int) + 1 else if a = 178 ∧ j = (t.length : Int) then c else m1.1 a j)
    by_cases c1 : a = 178
    · have hz : ¬ ((178 : Nat) = 177 ∧ j = 0) := fun h => absurd h.1 (by decide)
      rw [c1, if_neg hz, if_neg hz]
    · rw [if_neg (fun h => c1 h.1), if_neg (fun h : a = 178 ∧ j = (t.length : Int) => c1 h.1)]
  rw [e13]
  exact h2
/-! the class's number -/
def tz_sn (a : Int) : Int := if a < 10 then 1 else if a < 100 then 2 else if a < 1000 then 3 else if a < 10000 then 4 else 5
theorem tz_bk_sn : ((tz_bk a).length : Int) = tz_sn a := by
  unfold tz_bk tz_sn
  split
  · rfl
  split
  · rfl
  split
  · rfl
  split <;> rfl
theorem tc_size (h : 0 ≤ a ∧ a ≤ 99999) (hs : s = 0 ∨ s = 1) (hQ : Q (tz_sn a + s) M) : wJ6_stringSize_0f7a4_B11 Q (-a) s M := by
  unfold wJ6_stringSize_0f7a4_B11
  intro x2 e2 x3 e3
  refine tz_ex4 (fun d x1 x2 x3 x4 m => x1 = -a ∧ x2 = s ∧ m = M ∧ ((x4 = 1 ∧ x3 = -10) ∨ (x4 = 2 ∧ x3 = -100 ∧ 10 ≤ a) ∨ (x4 = 3 ∧ x3 = -1000 ∧ 100 ≤ a) ∨ (x4 = 4 ∧ x3 = -10000 ∧ 1000 ≤ a) ∨ (x4 = 5 ∧ x3 = -100000 ∧ 10000 ≤ a)) ∧ d = (5 - x4).toNat) 4 ⟨rfl, rfl, rfl, Or.inl ⟨e3, e2⟩, by rw [e3]; rfl⟩ ?_
  rintro k0 d x1 x2 x3 x4 m ⟨rfl, rfl, rfl, hI, rfl⟩ hk0
  simp only [wJ6_stringSize_0f7a4_L16, forall_eq]
  rw [tz_n (x := x4) (by omega) (by omega), tz_n (x := x3) (by omega) (by omega), tz_n (x := -a) (by omega) (by omega)]
  refine ⟨fun h => absurd h (by omega), fun _ => ⟨fun c1 => ?_, fun c1 => ?_⟩⟩
  · exact hk0 _ _ _ _ _ _ (by omega) ⟨rfl, rfl, rfl, by omega, rfl⟩
  · have e : tz_sn a = x4 := by
      unfold tz_sn
      split
      · omega
      split
      · omega
      split
      · omega
      split <;> omega
    rw [e] at hQ
    exact hQ
theorem tz_divn (h : 0 ≤ b ∧ b ≤ 2000000000) : ts_div (-b) 100 = -(b / 100) := by
  have e1 : (ts_I (-b)).toInt = -b := Int32.toInt_ofInt_of_le (by omega) (by omega)
  have e2 : (ts_I 100).toInt = 100 := by decide
  show (ts_I (-b) / ts_I 100).toInt = _
  rw [Int32.toInt_div_of_ne_left _ _ (by intro h5; rw [h5] at e1; have : Int32.minValue.toInt = -2147483648 := rfl; omega), e1, e2, Int.neg_tdiv, Int.tdiv_eq_ediv_of_nonneg h.1]
/-- two digits -/
theorem tc_gstep {n : Nat} (hb : 100 ≤ b ∧ b ≤ 99999) (he : 2 ≤ e ∧ e ≤ 70) (hcap : e ≤ m.1 177 2) (hq : q = m.1 177 3) (hs : ts_w s = s)
    (hk : ts_lp4 (wJ6_getChars_ba4f3_L22 Q) n (-(b / 100)) q (e - 2) s (tz_wbk [48 + b % 10, 48 + b / 10 % 10] m e)) : ts_lp4 (wJ6_getChars_ba4f3_L22 Q) (n + 1) (-b) q e s m := by
  show wJ6_getChars_ba4f3_L22 Q (ts_lp4 (wJ6_getChars_ba4f3_L22 Q) n) (-b) q e s m
  unfold wJ6_getChars_ba4f3_L22
  rw [tz_n (x := -b) (by omega) (by omega)]
  refine ⟨fun h => absurd h (by omega), fun _ => ?_⟩
  intro x9 e9 x10 e10 x11 e11 x12 e12
  rw [tz_divn (by omega)] at e9
  have f10 : x10 = b % 100 := by rw [e10, e9]; omega
  rw [f10, e12, tz_n (x := b % 100) (by omega) (by omega), tz_n (x := e + (-1)) (by omega) (by omega)]
  refine ⟨by omega, ⟨hq, by omega, by omega⟩, ?_⟩
  intro M13 e13
  rw [show b % 100 % 10 = b % 10 by omega, (tz_by (c := 48 + b % 10) (by omega)).2.1] at e13
  intro x14 e14
  rw [e14, tz_n (x := e + (-1) + (-1)) (by omega) (by omega)]
  have g2 : M13.1 177 = m.1 177 := by rw [e13, ts_si_ne (by decide)]
  rw [g2]
  refine ⟨by omega, ⟨hq, by omega, by omega⟩, ?_⟩
  intro M15 e15
  rw [show b % 100 / 10 = b / 10 % 10 by omega, (tz_by (c := 48 + b / 10 % 10) (by omega)).2.1] at e15
  have e16 : M15 = tz_wbk [48 + b % 10, 48 + b / 10 % 10] m e := by
    rw [e15, e13]
    show _ = ts_si (ts_si m 178 (e - 1) (48 + b % 10)) 178 (e - 1 - 1) (48 + b / 10 % 10)
    rw [show e + -1 = e - 1 by omega, show e - 1 + -1 = e - 1 - 1 by omega]
  rw [e16, e11, e9, show e + -1 + -1 = e - 2 by omega]
  exact hk
/-- the sign -/
theorem tc_gsign {l : List Int} (hs : s = 0 ∨ s = 1) (he : 0 ≤ e ∧ e ≤ 70) (he1 : s = 1 → 1 ≤ e) (hcap : e ≤ m.1 177 2) (hq : q = m.1 177 3) (hl : l = if s = 1 then [45] else []) (hQ : ∀ r : Int, Q r (tz_wbk l m e)) : wJ6_getChars_ba4f3_B104 Q q e s m := by
  unfold wJ6_getChars_ba4f3_B104 wJ6_getChars_ba4f3_B118
  rcases hs with h | h
  · rw [h, if_neg (by decide)] at hl
    rw [hl] at hQ
    rw [h, tz_n0]
    exact ⟨fun _ => hQ e, fun h2 => absurd rfl h2⟩
  · have h1 := he1 h
    rw [h, if_pos rfl] at hl
    rw [hl] at hQ
    rw [h, tz_n1]
    refine ⟨fun h2 => absurd h2 (by decide), fun _ => ?_⟩
    intro x5 e5
    rw [e5, tz_n (x := e + (-1)) (by omega) (by omega)]
    refine ⟨⟨hq, by omega, by omega⟩, ?_⟩
    intro M6 e6
    rw [show ts_nar .byte 45 = 45 from (tz_by (c := 45) (by decide)).2.1] at e6
    rw [e6, show e + -1 = e - 1 by omega]
    exact hQ (e - 1)
/-- the last digits, and the sign -/
theorem tc_glast {l : List Int} (hb : 0 ≤ b ∧ b < 100) (hs : s = 0 ∨ s = 1) (he : 3 ≤ e ∨ (s = 0 ∧ 2 ≤ e) ∨ (b < 10 ∧ 2 ≤ e) ∨ (b < 10 ∧ s = 0 ∧ 1 ≤ e)) (he2 : e ≤ 70) (hcap : e ≤ m.1 177 2) (hq : q = m.1 177 3) (hl : l = (if b < 10 then [48 + b] else [48 + b % 10, 48 + b / 10]) ++ if s = 1 then [45] else [])
    (hQ : ∀ r : Int, Q r (tz_wbk l m e)) : ts_lp4 (wJ6_getChars_ba4f3_L22 Q) 1 (-b) q e s m := by
  show wJ6_getChars_ba4f3_L22 Q (ts_lp4 (wJ6_getChars_ba4f3_L22 Q) 0) (-b) q e s m
  unfold wJ6_getChars_ba4f3_L22
  rw [tz_n (x := -b) (by omega) (by omega), show - -b = b by omega, tz_n (x := b) (by omega) (by omega)]
  refine ⟨fun _ => ?_, fun h => absurd (by omega) h⟩
  intro x3 e3
  rw [e3, tz_n (x := e + (-1)) (by omega) (by omega)]
  refine ⟨by omega, ⟨hq, by omega, by omega⟩, ?_⟩
  intro M4 e4
  rw [(tz_by (c := 48 + b % 10) (by omega)).2.1] at e4
  have g2 : M4.1 177 = m.1 177 := by rw [e4, ts_si_ne (by decide)]
  refine ⟨fun c => ?_, fun c => ?_⟩
  · refine tc_gsign (l := if s = 1 then [45] else []) hs (by omega) (fun h => by omega) (by rw [g2]; omega) (by rw [g2]; exact hq) rfl (fun r => ?_)
    have h2 := hQ r
    rw [hl, if_pos (by omega)] at h2
    have e5 : M4 = ts_si m 178 (e - 1) (48 + b) := by rw [e4, show b % 10 = b by omega, show e + -1 = e - 1 by omega]
    rw [e5, show e + -1 = e - 1 by omega]
    exact h2
  · intro x7 e7
    rw [e7, g2, tz_n (x := e + (-1) + (-1)) (by omega) (by omega)]
    refine ⟨by omega, ⟨hq, by omega, by omega⟩, ?_⟩
    intro M8 e8
    rw [(tz_by (c := 48 + b / 10) (by omega)).2.1] at e8
    have g3 : M8.1 177 = m.1 177 := by rw [e8, ts_si_ne (by decide), g2]
    refine tc_gsign (l := if s = 1 then [45] else []) hs (by omega) (fun h => by omega) (by rw [g3]; omega) (by rw [g3]; exact hq) rfl (fun r => ?_)
    have h2 := hQ r
    rw [hl, if_neg (by omega)] at h2
    have e5 : M8 = ts_si (ts_si m 178 (e - 1) (48 + b % 10)) 178 (e - 1 - 1) (48 + b / 10) := by rw [e8, e4, show e + -1 = e - 1 by omega, show e - 1 + -1 = e - 1 - 1 by omega]
    rw [e5, show e + -1 + -1 = e - 1 - 1 by omega]
    exact h2
theorem tz_wbk_app : ∀ {l1 l2 : List Int} {m : ts_M} {e : Int}, tz_wbk (l1 ++ l2) m e = tz_wbk l2 (tz_wbk l1 m e) (e - (l1.length : Int))
  | [], l2, m, e => by
    show tz_wbk l2 m e = tz_wbk l2 m (e - ((0 : Nat) : Int))
    rw [show e - ((0 : Nat) : Int) = e by omega]
  | c :: l1, l2, m, e => by
    show tz_wbk (l1 ++ l2) (ts_si m 178 (e - 1) c) (e - 1) = tz_wbk l2 (tz_wbk l1 (ts_si m 178 (e - 1) c) (e - 1)) (e - ((l1.length + 1 : Nat) : Int))
    rw [tz_wbk_app, show e - 1 - (l1.length : Int) = e - ((l1.length + 1 : Nat) : Int) by omega]
/-- all digits -/
theorem tc_chars (ha : 0 ≤ a ∧ a ≤ 99999) (hs : s = 0 ∨ s = 1) (he : tz_sn a + s ≤ e ∧ e ≤ 70) (hcap : e ≤ m.1 177 2) (hq : q = m.1 177 3) (hQ : ∀ r : Int, Q r (tz_wbk (tz_bk a ++ if s = 1 then [45] else []) m e)) : ∃ n, ts_lp4 (wJ6_getChars_ba4f3_L22 Q) n (-a) q e s m := by
  have hsw : ts_w s = s := tz_n (by omega) (by omega)
  have hsn : tz_sn a = 1 ∧ a < 10 ∨ tz_sn a = 2 ∧ 10 ≤ a ∧ a < 100 ∨ tz_sn a = 3 ∧ 100 ≤ a ∧ a < 1000 ∨ tz_sn a = 4 ∧ 1000 ≤ a ∧ a < 10000 ∨ tz_sn a = 5 ∧ 10000 ≤ a := by
    unfold tz_sn
    split
    · omega
    split
    · omega
    split
    · omega
    split <;> omega
  by_cases c1 : a < 100
  · refine ⟨1, tc_glast (b := a) ⟨ha.1, c1⟩ hs (by omega) he.2 hcap hq ?_ hQ⟩
    have e1 : tz_bk a = if a < 10 then [48 + a] else [48 + a % 10, 48 + a / 10] := by
      unfold tz_bk
      rw [if_pos c1]
    rw [e1]
  · obtain ⟨w1, w2, -⟩ := tz_wbk_o (l := [48 + a % 10, 48 + a / 10 % 10]) (m := m) (e := e)
    have w177 := w2 177 (by decide)
    by_cases c2 : a < 10000
    · refine ⟨2, tc_gstep (b := a) (by omega) (by omega) hcap hq hsw ?_⟩
      refine tc_glast (b := a / 100) (by omega) hs (by omega) (by omega) (by rw [w177]; omega) (by rw [w177]; exact hq) rfl (fun r => ?_)
      have h2 := hQ r
      have e1 : tz_bk a = [48 + a % 10, 48 + a / 10 % 10] ++ (if a / 100 < 10 then [48 + a / 100] else [48 + a / 100 % 10, 48 + a / 100 / 10]) := by
        unfold tz_bk
        rw [if_neg (by omega), if_neg (by omega)]
        by_cases c3 : a < 1000
        · rw [if_pos c3, if_pos (by omega)]; rfl
        · rw [if_neg c3, if_pos c2, if_neg (by omega), show a / 100 / 10 = a / 1000 by omega]; rfl
      rw [e1, List.append_assoc, tz_wbk_app] at h2
      exact h2
    · refine ⟨3, tc_gstep (b := a) (by omega) (by omega) hcap hq hsw ?_⟩
      refine tc_gstep (b := a / 100) (by omega) (by omega) (by rw [w177]; omega) (by rw [w177]; exact hq) hsw ?_
      obtain ⟨v1, v2, -⟩ := tz_wbk_o (l := [48 + a / 100 % 10, 48 + a / 100 / 10 % 10]) (m := tz_wbk [48 + a % 10, 48 + a / 10 % 10] m e) (e := e - 2)
      have v177 := v2 177 (by decide)
      refine tc_glast (b := a / 100 / 100) (by omega) hs (by omega) (by omega) (by rw [v177, w177]; omega) (by rw [v177, w177]; exact hq) rfl (fun r => ?_)
      have h2 := hQ r
      have e1 : tz_bk a = [48 + a % 10, 48 + a / 10 % 10] ++ ([48 + a / 100 % 10, 48 + a / 100 / 10 % 10] ++ (if a / 100 / 100 < 10 then [48 + a / 100 / 100] else [48 + a / 100 / 100 % 10, 48 + a / 100 / 100 / 10])) := by
        unfold tz_bk
        rw [if_neg (by omega), if_neg (by omega), if_neg (by omega), if_neg c2, if_pos (by omega), show a / 100 / 10 = a / 1000 by omega, show a / 100 / 100 = a / 10000 by omega]
        rfl
      rw [e1, List.append_assoc, List.append_assoc, tz_wbk_app, tz_wbk_app] at h2
      exact h2
theorem tz_bv_sn (hv : -99999 ≤ v ∧ v ≤ 99999) : ((tz_bv v).length : Int) = if v < 0 then tz_sn (-v) + 1 else tz_sn v := by
  unfold tz_bv
  split
  · rw [List.length_append, List.length_singleton, ← tz_bk_sn]; omega
  · exact tz_bk_sn
theorem tc_ssz (hv : -99999 ≤ v ∧ v ≤ 99999) (hQ : Q ((tz_bv v).length : Int) M) : wJ6_stringSize_0f7a4 v Q M := by
  rw [tz_bv_sn hv] at hQ
  unfold wJ6_stringSize_0f7a4
  intro x1 e1
  rw [e1, tz_n (x := v) (by omega) (by omega)]
  refine ⟨fun c => ?_, fun c => ?_⟩
  · rw [if_pos c] at hQ
    have h2 := tc_size (a := -v) (s := 1) (by omega) (Or.inr rfl) hQ
    rw [show - -v = v by omega] at h2
    exact h2
  · rw [if_neg c] at hQ
    intro x6 e6 x7 e7
    rw [e6, e7]
    refine tc_size (a := v) (s := 0) (by omega) (Or.inl rfl) ?_
    rw [Int.add_zero]; exact hQ
theorem tc_gch (hv : -99999 ≤ v ∧ v ≤ 99999) (he : ((tz_bv v).length : Int) ≤ e ∧ e ≤ 70) (hcap : e ≤ m.1 177 2) (hq : q = m.1 177 3) (hQ : ∀ r : Int, Q r (tz_wbk (tz_bv v) m e)) : wJ6_getChars_ba4f3 v e q Q m := by
  rw [tz_bv_sn hv] at he
  unfold wJ6_getChars_ba4f3 wJ6_getChars_ba4f3_B12
  intro x1 e1
  rw [e1, tz_n (x := v) (by omega) (by omega)]
  refine ⟨fun c => ?_, fun c => ?_⟩
  · have e2 : tz_bv v = tz_bk v ++ if (0 : Int) = 1 then [45] else [] := by
      unfold tz_bv
      rw [if_neg (by omega), if_neg (by decide), List.append_nil]
    rw [e2] at hQ
    rw [if_neg (by omega)] at he
    intro x2 e3
    rw [e3, tz_n0]
    refine ⟨fun h => absurd rfl h, fun _ => ?_⟩
    intro x16 e16
    rw [e16]
    exact tc_chars (a := v) (s := 0) (by omega) (Or.inl rfl) (by omega) hcap hq hQ
  · have e2 : tz_bv v = tz_bk (-v) ++ if (1 : Int) = 1 then [45] else [] := by
      unfold tz_bv
      rw [if_pos (by omega), if_pos rfl]
    rw [e2] at hQ
    rw [if_pos (by omega)] at he
    intro x2 e3
    rw [e3, tz_n1]
    refine ⟨fun _ => ?_, fun h => absurd h (by decide)⟩
    have h2 := tc_chars (a := -v) (s := 1) (by omega) (Or.inr rfl) (by omega) hcap hq hQ
    rw [show - -v = v by omega] at h2
    exact h2
/-- a number is appended -/
theorem tc_api (hO : tz_OB M0 t m) (hv : -99999 ≤ v ∧ v ≤ 99999) (hl : t.length ≤ 64) (hQ : ∀ m' : ts_M, tz_OB M0 (t ++ tz_num v) m' → Qv m') : wJ4_append_bf812 v Qv m := by
  have hn := tz_bv_len hv
  unfold wJ4_append_bf812 wJ5_append_c97b9 wJ5_append_c97b9_B48
  intro x1 e1
  rw [hO.2.2.1] at e1
  refine tc_ssz hv ?_
  intro x4 e4
  rw [e1] at e4
  refine tc_ens hO (by omega) (by omega) (fun m1 hO1 hcap => ?_)
  refine tc_lat ?_
  rw [tz_n1]
  refine ⟨fun h => absurd h (by decide), fun _ => ?_⟩
  intro q9 e9
  refine tc_gch hv (by omega) hcap e9 (fun r => ?_)
  intro M12 e12
  rw [e12]
  exact hQ _ (tz_OB_wb hO1 e4 hcap)
/-- the text emptied -/
theorem tc_set0 (hO : tz_OUT M) (hQ : ∀ m' : ts_M, tz_OB M [] m' → Qv m') : wJ4_setLength_d00df 0 Qv M := by
  obtain ⟨d1, d2, d3, d4, d5, d6⟩ := hO
  unfold wJ4_setLength_d00df wJ5_setLength_d00df wJ5_setLength_d00df_B76
  rw [tz_n0]
  refine ⟨fun _ => ?_, fun h => absurd (by decide) h⟩
  unfold wJ5_ensureCapacityInternal_d00df wJ5_ensureCapacityInternal_d00df_B38
  intro q1 e1
  refine ⟨⟨e1, by omega⟩, ?_⟩
  intro x2 e2
  rw [(tz_shl0 (a := M.1 177 2) (by omega)).2] at e2
  rw [e2, tz_n (x := 0 - M.1 177 2) (by omega) (by omega)]
  refine ⟨fun _ => ?_, fun h => absurd (by omega) h⟩
  dsimp only
  rw [tz_n (x := M.1 177 0) (by omega) (by omega)]
  refine ⟨fun _ => ⟨fun c => ?_, fun c => ?_⟩, fun h => absurd d4.1 h⟩
  · intro M2 e3
    refine hQ M2 ?_
    have k : ∀ j : Int, j ≠ 0 → M2.1 177 j = M.1 177 j := fun j hj => by rw [e3, tz_si_k hj]
    exact ⟨fun a h1 h2 => by rw [e3, ts_si_ne h1], by rw [e3]; rfl, by rw [e3]; exact tz_si_a, by rw [k 2 (by decide)]; exact d1, by rw [k 3 (by decide)]; exact d2, by rw [k 4 (by decide)]; exact d3, by rw [k 2 (by decide)]; show (0 : Int) ≤ _; omega, fun j hj => absurd hj (by simp)⟩
  · intro M3 e4 M2 e3
    refine hQ M2 ?_
    have k : ∀ j : Int, j ≠ 0 → j ≠ 1 → M2.1 177 j = M.1 177 j := fun j hj h1 => by rw [e3, tz_si_k hj, e4, tz_si_k h1]
    exact ⟨fun a h1 h2 => by rw [e3, ts_si_ne h1, e4, ts_si_ne h1], by rw [e3, e4]; rfl, by rw [e3]; exact tz_si_a, by rw [k 2 (by decide) (by decide)]; exact d1, by rw [k 3 (by decide) (by decide)]; exact d2, by rw [k 4 (by decide) (by decide)]; exact d3, by rw [k 2 (by decide) (by decide)]; show (0 : Int) ≤ _; omega, fun j hj => absurd hj (by simp)⟩
/-! the reference's text -/
def tz_OR (M0 : ts_M) (t : List Int) (m : ts_M) : Prop := (∀ (a : Nat) (j : Int), a ≠ 172 → ¬ (a = 164 ∧ (j = 0 ∨ j = 12)) → m.1 a j = M0.1 a j) ∧ m.2 = M0.2 ∧ m.1 164 12 = (t.length : Int) ∧ ∀ j : Nat, j < t.length → m.1 172 (j : Int) = t.getD j 0
theorem tm_wr (hO : tz_OR M0 t m) (hc : 32 ≤ c ∧ c ≤ 126) (hl : t.length < 80) (hQ : ∀ m' : ts_M, tz_OR M0 (t ++ [c]) m' → Qv m') : wX12_writes c Qv m := by
  obtain ⟨o1, o2, o3, o4⟩ := hO
  unfold wX12_writes
  rw [o3, tz_n (x := (t.length : Int)) (by omega) (by omega), (tz_by (c := c) (by omega)).2.2.2]
  refine ⟨by omega, ?_⟩
  intro M1 e1 M2 e2
  have e3 : M1.1 164 12 = (t.length : Int) := by rw [e1, ts_si_ne (by decide), o3]
  rw [e3] at e2
  refine hQ M2 ⟨fun a j h1 h2 => ?_, by rw [e2, e1]; exact o2, ?_, fun j hj => ?_⟩
  · by_cases c1 : a = 164
    · subst c1
      rw [e2, tz_si_k (by omega), e1, ts_si_ne h1]
      exact o1 164 j h1 h2
    · rw [e2, ts_si_ne c1, e1, ts_si_ne h1]
      exact o1 a j h1 h2
  · rw [e2, tz_si_a, List.length_append, List.length_singleton]; omega
  · rw [e2, ts_si_ne (by decide), e1]
    rw [List.length_append, List.length_singleton] at hj
    by_cases c1 : j < t.length
    · rw [tz_si_k (by omega), tz_gD_l c1]; exact o4 j c1
    · rw [show j = t.length by omega, tz_si_a, tz_gD_r (Nat.le_refl _), Nat.sub_self]; rfl
theorem tm_wstep {u : Int} {n : Nat} (hO : tz_OR M0 t m) (ha : 0 ≤ a ∧ a ≤ 99999) (hu : 1 ≤ u ∧ u ≤ 10000) (hl : t.length < 80) (hk : ∀ m' : ts_M, tz_OR M0 (t ++ [48 + a / u % 10]) m' → ts_lp2 (wX12_writesNumber_L42 Qv) n a (u / 10) m') : ts_lp2 (wX12_writesNumber_L42 Qv) (n + 1) a u m := by
  show wX12_writesNumber_L42 Qv (ts_lp2 (wX12_writesNumber_L42 Qv) n) a u m
  unfold wX12_writesNumber_L42
  have h1 : 0 ≤ a / u := Int.ediv_nonneg ha.1 (by omega)
  have h2 : a / u ≤ a := Int.ediv_le_self _ ha.1
  rw [tz_n (x := u) (by omega) (by omega), tz_div ha.1 (by omega) (by omega) (by omega), tz_rem h1 (by omega) (by decide) (by decide)]
  refine ⟨fun h => absurd h (by omega), fun _ => ⟨by omega, ?_⟩⟩
  refine tm_wr hO (by omega) hl (fun m' hO' => ?_)
  intro x5 e5
  rw [e5, tz_div (by omega) (by omega) (by decide) (by decide)]
  exact hk m' hO'
theorem tm_wend (hQ : Qv m) : ts_lp2 (wX12_writesNumber_L42 Qv) 1 a 0 m := by
  show wX12_writesNumber_L42 Qv (ts_lp2 (wX12_writesNumber_L42 Qv) 0) a 0 m
  unfold wX12_writesNumber_L42
  rw [tz_n0]
  exact ⟨fun _ => hQ, fun h => absurd (by decide) h⟩
def tz_un (a : Int) : Int := if a < 10 then 1 else if a < 100 then 10 else if a < 1000 then 100 else if a < 10000 then 1000 else 10000
theorem tm_unit (ha : 0 ≤ a ∧ a ≤ 99999) (hQ : ∃ n, ts_lp2 (wX12_writesNumber_L42 Qv) n a (tz_un a) m) : wX12_writesNumber_B20 Qv a m := by
  unfold wX12_writesNumber_B20
  intro x1 e1 x2 e2
  refine tz_ex2 (fun d x1 x2 m' => x1 = a ∧ m' = m ∧ (x2 = 1 ∨ (x2 = 10 ∧ 10 ≤ a) ∨ (x2 = 100 ∧ 100 ≤ a) ∨ (x2 = 1000 ∧ 1000 ≤ a) ∨ (x2 = 10000 ∧ 10000 ≤ a)) ∧ d = (100000 - x2).toNat) (100000 - x2).toNat ⟨e1, rfl, Or.inl e2, rfl⟩ ?_
  rintro k0 d x1 x2 m' ⟨rfl, rfl, hI, rfl⟩ hk0
  simp only [wX12_writesNumber_L23, forall_eq]
  have h1 : 0 ≤ x1 / x2 := Int.ediv_nonneg ha.1 (by omega)
  have h2 : x1 / x2 ≤ x1 := Int.ediv_le_self _ ha.1
  rw [tz_div ha.1 (by omega) (by omega) (by omega), tz_n (x := x2) (by omega) (by omega), tz_n (x := x1 / x2) (by omega) (by omega)]
  refine ⟨by omega, fun c => ?_, fun c => ?_⟩
  · have e : tz_un x1 = x2 := by
      unfold tz_un
      rcases hI with h | ⟨h, h3⟩ | ⟨h, h3⟩ | ⟨h, h3⟩ | ⟨h, h3⟩ <;> subst h
      · rw [if_pos (by omega)]
      · rw [if_neg (by omega), if_pos (by omega)]
      · rw [if_neg (by omega), if_neg (by omega), if_pos (by omega)]
      · rw [if_neg (by omega), if_neg (by omega), if_neg (by omega), if_pos (by omega)]
      · rw [if_neg (by omega), if_neg (by omega), if_neg (by omega), if_neg (by omega)]
    rw [e] at hQ
    exact hQ
  · refine hk0 _ _ _ _ ?_ ⟨rfl, rfl, ?_, rfl⟩
    · omega
    · rcases hI with h | ⟨h, h3⟩ | ⟨h, h3⟩ | ⟨h, h3⟩ | ⟨h, h3⟩ <;> subst h <;> omega
theorem tz_ap2 {x y : Int} : (t ++ [x]) ++ [y] = t ++ [x, y] := by rw [List.append_assoc]; rfl
theorem tz_ap3 {x y : Int} {l : List Int} : (t ++ (x :: l)) ++ [y] = t ++ (x :: (l ++ [y])) := by rw [List.append_assoc]; rfl
theorem tm_digits (hO : tz_OR M0 t m) (ha : 0 ≤ a ∧ a ≤ 99999) (hl : t.length < 75) (hQ : ∀ m' : ts_M, tz_OR M0 (t ++ (tz_bk a).reverse) m' → Qv m') : ∃ n, ts_lp2 (wX12_writesNumber_L42 Qv) n a (tz_un a) m := by
  have hlen : ∀ {l : List Int}, l.length ≤ 4 → (t ++ l).length < 80 := fun h => by rw [List.length_append]; omega
  unfold tz_bk at hQ
  unfold tz_un
  by_cases c1 : a < 10
  · rw [if_pos c1]
    rw [if_pos c1] at hQ
    refine ⟨2, tm_wstep hO ha (by decide) (by omega) (fun m1 h1 => ?_)⟩
    refine tm_wend (hQ m1 ?_)
    rw [show 48 + a / 1 % 10 = 48 + a by omega] at h1
    exact h1
  by_cases c2 : a < 100
  · rw [if_neg c1, if_pos c2]
    rw [if_neg c1, if_pos c2] at hQ
    refine ⟨3, tm_wstep hO ha (by decide) (by omega) (fun m1 h1 => ?_)⟩
    refine tm_wstep (u := 10 / 10) h1 ha (by decide) (hlen (by simp)) (fun m2 h2 => ?_)
    refine tm_wend (hQ m2 ?_)
    rw [tz_ap2, show 48 + a / 10 % 10 = 48 + a / 10 by omega, show 48 + a / (10 / 10) % 10 = 48 + a % 10 by omega] at h2
    exact h2
  by_cases c3 : a < 1000
  · rw [if_neg c1, if_neg c2, if_pos c3]
    rw [if_neg c1, if_neg c2, if_pos c3] at hQ
    refine ⟨4, tm_wstep hO ha (by decide) (by omega) (fun m1 h1 => ?_)⟩
    refine tm_wstep (u := 100 / 10) h1 ha (by decide) (hlen (by simp)) (fun m2 h2 => ?_)
    rw [tz_ap2] at h2
    refine tm_wstep (u := 100 / 10 / 10) h2 ha (by decide) (hlen (by simp)) (fun m3 h3 => ?_)
    refine tm_wend (hQ m3 ?_)
    rw [tz_ap3, show 48 + a / 100 % 10 = 48 + a / 100 by omega, show 48 + a / (100 / 10) % 10 = 48 + a / 10 % 10 by omega, show 48 + a / (100 / 10 / 10) % 10 = 48 + a % 10 by omega] at h3
    exact h3
  by_cases c4 : a < 10000
  · rw [if_neg c1, if_neg c2, if_neg c3, if_pos c4]
    rw [if_neg c1, if_neg c2, if_neg c3, if_pos c4] at hQ
    refine ⟨5, tm_wstep hO ha (by decide) (by omega) (fun m1 h1 => ?_)⟩
    refine tm_wstep (u := 1000 / 10) h1 ha (by decide) (hlen (by simp)) (fun m2 h2 => ?_)
    rw [tz_ap2] at h2
    refine tm_wstep (u := 1000 / 10 / 10) h2 ha (by decide) (hlen (by simp)) (fun m3 h3 => ?_)
    rw [tz_ap3] at h3
    refine tm_wstep (u := 1000 / 10 / 10 / 10) h3 ha (by decide) (hlen (by simp)) (fun m4 h4 => ?_)
    refine tm_wend (hQ m4 ?_)
    rw [tz_ap3, show 48 + a / 1000 % 10 = 48 + a / 1000 by omega, show 48 + a / (1000 / 10) % 10 = 48 + a / 100 % 10 by omega, show 48 + a / (1000 / 10 / 10) % 10 = 48 + a / 10 % 10 by omega, show 48 + a / (1000 / 10 / 10 / 10) % 10 = 48 + a % 10 by omega] at h4
    exact h4
  · rw [if_neg c1, if_neg c2, if_neg c3, if_neg c4]
    rw [if_neg c1, if_neg c2, if_neg c3, if_neg c4] at hQ
    refine ⟨6, tm_wstep hO ha (by decide) (by omega) (fun m1 h1 => ?_)⟩
    refine tm_wstep (u := 10000 / 10) h1 ha (by decide) (hlen (by simp)) (fun m2 h2 => ?_)
    rw [tz_ap2] at h2
    refine tm_wstep (u := 10000 / 10 / 10) h2 ha (by decide) (hlen (by simp)) (fun m3 h3 => ?_)
    rw [tz_ap3] at h3
    refine tm_wstep (u := 10000 / 10 / 10 / 10) h3 ha (by decide) (hlen (by simp)) (fun m4 h4 => ?_)
    rw [tz_ap3] at h4
    refine tm_wstep (u := 10000 / 10 / 10 / 10 / 10) h4 ha (by decide) (hlen (by simp)) (fun m5 h5 => ?_)
    refine tm_wend (hQ m5 ?_)
    rw [tz_ap3, show 48 + a / 10000 % 10 = 48 + a / 10000 by omega, show 48 + a / (10000 / 10) % 10 = 48 + a / 1000 % 10 by omega, show 48 + a / (10000 / 10 / 10) % 10 = 48 + a / 100 % 10 by omega, show 48 + a / (10000 / 10 / 10 / 10) % 10 = 48 + a / 10 % 10 by omega, show 48 + a / (10000 / 10 / 10 / 10 / 10) % 10 = 48 + a % 10 by omega] at h5
    exact h5
/-- a number is written -/
theorem tm_wn (hO : tz_OR M0 t m) (hv : -99999 ≤ v ∧ v ≤ 99999) (hl : t.length < 74) (hQ : ∀ m' : ts_M, tz_OR M0 (t ++ tz_num v) m' → Qv m') : wX12_writesNumber v Qv m := by
  unfold wX12_writesNumber wX12_writesNumber_B10
  rw [tz_n (x := v) (by omega) (by omega)]
  refine ⟨fun c => ⟨fun _ => ?_, fun h => absurd c h⟩, fun c => ?_⟩
  · refine tm_unit (by omega) (tm_digits hO (by omega) (by omega) (fun m' h' => hQ m' ?_))
    have e : tz_num v = (tz_bk v).reverse := by unfold tz_num tz_bv; rw [if_neg (by omega)]
    rw [e]; exact h'
  · refine tm_wr hO (by decide) (by omega) (fun m1 h1 => ⟨fun h => absurd h c, fun _ => ?_⟩)
    refine tm_unit (by omega) (tm_digits h1 (by omega) (by rw [List.length_append, List.length_singleton]; omega) (fun m' h' => hQ m' ?_))
    have e : tz_num v = [45] ++ (tz_bk (-v)).reverse := by
      unfold tz_num tz_bv
      rw [if_pos (by omega), List.reverse_append]; rfl
    rw [e, ← List.append_assoc]; exact h'
end TLO
