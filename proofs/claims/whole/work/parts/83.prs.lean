/-! ===== scripts: the text, and what a form takes of it ===== -/
def tz_nx (L : Int) (t : Int → Int) (i : Int) : Int := if L ≤ i then -1 else t i
def tz_tx (L : Int) (t : Int → Int) : Prop := (0 ≤ L ∧ L ≤ 60) ∧ ∀ j : Int, 0 ≤ j → j < L → 32 ≤ t j ∧ t j ≤ 126
def tz_dg (x : Int) : Bool := tz_in 48 x 57
def tz_nm2 (ch : Int → Int) (i : Int) : Bool × Int × List Int := if tz_dg (ch i) then (if tz_dg (ch (i + 1)) then (true, i + 2, [10 * (ch i - 48) + (ch (i + 1) - 48)]) else (true, i + 1, [ch i - 48])) else (false, i, [])
/-- one part of a form: whether it follows, where the cursor is then, what is kept -/
def tz_st (ch : Int → Int) (c i : Int) : Bool × Int × List Int :=
  if c = 68 then (if tz_dg (ch i) then (true, i + 1, [ch i - 48]) else (false, i, []))
  else if c = 78 then tz_nm2 ch i
  else if c = 83 then (if ch i = 45 then ((tz_nm2 ch (i + 1)).1, (tz_nm2 ch (i + 1)).2.1, (tz_nm2 ch (i + 1)).2.2.map (fun v => -v)) else tz_nm2 ch i)
  else if ch i = c then (true, i + 1, []) else (false, i, [])
def tz_mt (ch : Int → Int) : List Int → Int → Bool × Int × List Int
  | [], i => (true, i, [])
  | c :: F, i => if (tz_st ch c i).1 then ((tz_mt ch F (tz_st ch c i).2.1).1, (tz_mt ch F (tz_st ch c i).2.1).2.1, if (tz_mt ch F (tz_st ch c i).2.1).1 then (tz_st ch c i).2.2 ++ (tz_mt ch F (tz_st ch c i).2.1).2.2 else []) else (false, (tz_st ch c i).2.1, [])
/-- the forms -/
def tz_fm : Nat → List Int
  | 0 => [115, 112, 111, 111, 110, 32, 68, 32, 78]
  | 1 => [112, 114, 111, 112, 111, 115, 101, 32, 78]
  | 2 => [109, 111, 118, 101, 32, 78]
  | 3 => [97, 109, 101, 110, 100, 32, 83]
  | 4 => [112, 111, 115, 116, 112, 111, 110, 101]
  | 5 => [99, 108, 111, 115, 101]
  | 6 => [97, 100, 106, 111, 117, 114, 110]
  | 7 => [115, 112, 101, 97, 107, 32, 68]
  | 8 => [118, 111, 116, 101]
  | 9 => [115, 112, 105, 108, 108, 32, 68, 68, 32, 78]
  | 10 => [109, 111, 112, 32, 68, 68]
  | _ => [115, 117, 103, 97, 114, 32, 68, 32, 68]
/-- the number of arguments that a form's rest keeps -/
def tz_na : List Int → Nat
  | [] => 0
  | c :: F => (if c = 68 ∨ c = 78 ∨ c = 83 then 1 else 0) + tz_na F
/-- the first command that follows; else where no command can go on -/
def tz_rd (ch : Int → Int) (i : Int) : Nat → Nat → Int → Bool × Int × Int × List Int
  | 0, _, far => (false, -1, far, [])
  | n + 1, k, far => if (tz_mt ch (tz_fm k) i).1 then (true, (k : Int), (tz_mt ch (tz_fm k) i).2.1, (tz_mt ch (tz_fm k) i).2.2) else tz_rd ch i n (k + 1) (if far < (tz_mt ch (tz_fm k) i).2.1 then (tz_mt ch (tz_fm k) i).2.1 else far)
theorem tz_fm_ln : ∀ q : Fin 12, ts_ln q.val = ((tz_fm q.val).length : Int) ∧ (tz_fm q.val).length ≤ 10 ∧ tz_na (tz_fm q.val) ≤ 3 := by decide +kernel
theorem tz_fm_bt : ∀ q : Fin 12, ∀ i : Fin 10, i.val < (tz_fm q.val).length → ts_i2c (ts_and (ts_bt q.val (i.val : Int)) 255) = (tz_fm q.val).getD i.val 0 ∧ 32 ≤ (tz_fm q.val).getD i.val 0 ∧ (tz_fm q.val).getD i.val 0 ≤ 126 := by decide +kernel
theorem tz_h0 {A : Prop} : (((0 : Int) = 0 ∨ (0 : Int) = 1) ∧ A) ↔ A := tz_p (Or.inl rfl)
theorem tz_h1 {A : Prop} : (((1 : Int) = 0 ∨ (1 : Int) = 1) ∧ A) ↔ A := tz_p (Or.inr rfl)
theorem tz_gD_l {A G : List Int} {k : Nat} (h : k < A.length) : (A ++ G).getD k 0 = A.getD k 0 := by
  rw [List.getD_eq_getElem?_getD, List.getD_eq_getElem?_getD, List.getElem?_append_left h]
theorem tz_gD_r {A G : List Int} {k : Nat} (h : A.length ≤ k) : (A ++ G).getD k 0 = G.getD (k - A.length) 0 := by
  rw [List.getD_eq_getElem?_getD, List.getD_eq_getElem?_getD, List.getElem?_append_right h]
section TZQ
variable {L i c x : Int} {t ch : Int → Int} {F G A : List Int} {a b k j n f q : Nat} {Q : Int → ts_M → Prop} {Qv : ts_M → Prop} {M m M0 : ts_M}
theorem tz_nx_rng (h : tz_tx L t) (h0 : 0 ≤ i) : tz_nx L t i = -1 ∨ (32 ≤ tz_nx L t i ∧ tz_nx L t i ≤ 126 ∧ i < L) := by
  unfold tz_nx
  by_cases c1 : L ≤ i
  · rw [if_pos c1]; exact Or.inl rfl
  · rw [if_neg c1]
    have := h.2 i h0 (by omega)
    exact Or.inr ⟨this.1, this.2, by omega⟩
theorem tz_dg_t : tz_dg x = true ↔ 48 ≤ x ∧ x ≤ 57 := tz_in_t
/-- where the cursor goes, and what numbers are kept -/
theorem tz_nm2_rng (h : tz_tx L t) (h0 : 0 ≤ i) (h1 : i ≤ L) : i ≤ (tz_nm2 (tz_nx L t) i).2.1 ∧ (tz_nm2 (tz_nx L t) i).2.1 ≤ L ∧ (∀ v ∈ (tz_nm2 (tz_nx L t) i).2.2, 0 ≤ v ∧ v ≤ 99) ∧ ((tz_nm2 (tz_nx L t) i).1 = true → (tz_nm2 (tz_nx L t) i).2.2.length = 1 ∧ i < (tz_nm2 (tz_nx L t) i).2.1) ∧ ((tz_nm2 (tz_nx L t) i).1 = false → (tz_nm2 (tz_nx L t) i).2.2 = []) := by
  have r1 := tz_nx_rng h h0
  have r2 := tz_nx_rng (i := i + 1) h (by omega)
  unfold tz_nm2
  generalize tz_nx L t i = y at *
  generalize tz_nx L t (i + 1) = z at *
  cases hy : tz_dg y
  · exact ⟨Int.le_refl _, h1, fun v hv => absurd hv List.not_mem_nil, fun h => (by cases h), fun _ => rfl⟩
  · have gy := tz_dg_t.mp hy
    cases hz : tz_dg z
    · refine ⟨by show i ≤ i + 1; omega, by show i + 1 ≤ L; omega, fun v hv => ?_, fun _ => ⟨rfl, by show i < i + 1; omega⟩, fun h => by cases h⟩
      have hv2 : v ∈ [y - 48] := hv
      rw [List.mem_singleton] at hv2
      omega
    · have gz := tz_dg_t.mp hz
      refine ⟨by show i ≤ i + 2; omega, by show i + 2 ≤ L; omega, fun v hv => ?_, fun _ => ⟨rfl, by show i < i + 2; omega⟩, fun h => by cases h⟩
      have hv2 : v ∈ [10 * (y - 48) + (z - 48)] := hv
      rw [List.mem_singleton] at hv2
      omega
theorem tz_st_rng (h : tz_tx L t) (h0 : 0 ≤ i) (h1 : i ≤ L) (hc : 32 ≤ c) : i ≤ (tz_st (tz_nx L t) c i).2.1 ∧ (tz_st (tz_nx L t) c i).2.1 ≤ L ∧ (∀ v ∈ (tz_st (tz_nx L t) c i).2.2, -99 ≤ v ∧ v ≤ 99) ∧ ((tz_st (tz_nx L t) c i).1 = true → i < (tz_st (tz_nx L t) c i).2.1 ∧ (tz_st (tz_nx L t) c i).2.2.length = if c = 68 ∨ c = 78 ∨ c = 83 then 1 else 0) ∧ ((tz_st (tz_nx L t) c i).1 = false → (tz_st (tz_nx L t) c i).2.2 = []) := by
  have r1 := tz_nx_rng h h0
  have n1 := tz_nm2_rng h h0 h1
  unfold tz_st
  by_cases c1 : c = 68
  · rw [if_pos c1, if_pos (Or.inl c1)]
    generalize tz_nx L t i = y at *
    cases hy : tz_dg y
    · exact ⟨Int.le_refl _, h1, fun v hv => absurd hv List.not_mem_nil, fun h => (by cases h), fun _ => rfl⟩
    · have gy := tz_dg_t.mp hy
      refine ⟨by show i ≤ i + 1; omega, by show i + 1 ≤ L; omega, fun v hv => ?_, fun _ => ⟨by show i < i + 1; omega, rfl⟩, fun h => by cases h⟩
      have hv2 : v ∈ [y - 48] := hv
      rw [List.mem_singleton] at hv2
      omega
  · rw [if_neg c1]
    by_cases c2 : c = 78
    · rw [if_pos c2, if_pos (Or.inr (Or.inl c2))]
      exact ⟨n1.1, n1.2.1, fun v hv => by have := n1.2.2.1 v hv; omega, fun h => ⟨(n1.2.2.2.1 h).2, (n1.2.2.2.1 h).1⟩, n1.2.2.2.2⟩
    · rw [if_neg c2]
      by_cases c3 : c = 83
      · rw [if_pos c3, if_pos (Or.inr (Or.inr c3))]
        by_cases c4 : tz_nx L t i = 45
        · rw [if_pos c4]
          have n2 := tz_nm2_rng (i := i + 1) h (by omega) (by omega)
          generalize tz_nm2 (tz_nx L t) (i + 1) = r at *
          obtain ⟨ok, p, l⟩ := r
          refine ⟨by have := n2.1; show i ≤ p; dsimp only at this; omega, n2.2.1, fun v hv => ?_, fun h => ⟨by have := n2.1; show i < p; dsimp only at this; omega, ?_⟩, fun h => ?_⟩
          · have hv2 : v ∈ l.map (fun v => -v) := hv
            obtain ⟨u, hu, he⟩ := List.mem_map.mp hv2
            have := n2.2.2.1 u hu
            omega
          · show (l.map (fun v => -v)).length = 1
            rw [List.length_map]; exact (n2.2.2.2.1 h).1
          · show l.map (fun v => -v) = []
            have h3 := n2.2.2.2.2 h
            dsimp only at h3
            rw [h3]; rfl
        · rw [if_neg c4]
          exact ⟨n1.1, n1.2.1, fun v hv => by have := n1.2.2.1 v hv; omega, fun h => ⟨(n1.2.2.2.1 h).2, (n1.2.2.2.1 h).1⟩, n1.2.2.2.2⟩
      · rw [if_neg c3]
        rw [if_neg (show ¬ (c = 68 ∨ c = 78 ∨ c = 83) by omega)]
        by_cases c4 : tz_nx L t i = c
        · rw [if_pos c4]
          exact ⟨by show i ≤ i + 1; omega, by show i + 1 ≤ L; omega, fun v hv => absurd hv List.not_mem_nil, fun _ => ⟨by show i < i + 1; omega, rfl⟩, fun h => by cases h⟩
        · rw [if_neg c4]
          exact ⟨Int.le_refl _, h1, fun v hv => absurd hv List.not_mem_nil, fun h => (by cases h), fun _ => rfl⟩
theorem tz_mt_rng (h : tz_tx L t) : ∀ {F : List Int} {i : Int}, 0 ≤ i → i ≤ L → (∀ c ∈ F, 32 ≤ c) → i ≤ (tz_mt (tz_nx L t) F i).2.1 ∧ (tz_mt (tz_nx L t) F i).2.1 ≤ L ∧ (∀ v ∈ (tz_mt (tz_nx L t) F i).2.2, -99 ≤ v ∧ v ≤ 99) ∧ ((tz_mt (tz_nx L t) F i).1 = true → i + (F.length : Int) ≤ (tz_mt (tz_nx L t) F i).2.1 ∧ (tz_mt (tz_nx L t) F i).2.2.length = tz_na F) ∧ ((tz_mt (tz_nx L t) F i).1 = false → (tz_mt (tz_nx L t) F i).2.2 = [])
  | [], i, h0, h1, _ => ⟨Int.le_refl _, h1, fun v hv => absurd hv List.not_mem_nil, fun _ => ⟨by show i + 0 ≤ i; omega, rfl⟩, fun h => by cases h⟩
  | c :: F, i, h0, h1, hc => by
    have s1 := tz_st_rng h h0 h1 (hc c List.mem_cons_self)
    have ih := tz_mt_rng h (F := F) (i := (tz_st (tz_nx L t) c i).2.1) (by omega) s1.2.1 (fun d hd => hc d (List.mem_cons_of_mem _ hd))
    unfold tz_mt
    cases ho : (tz_st (tz_nx L t) c i).1
    · rw [if_neg (by decide)]
      exact ⟨s1.1, s1.2.1, fun v hv => absurd hv List.not_mem_nil, fun h => (by cases h), fun _ => rfl⟩
    · rw [if_pos rfl]
      have s2 := s1.2.2.2.1 ho
      cases hm : (tz_mt (tz_nx L t) F (tz_st (tz_nx L t) c i).2.1).1
      · refine ⟨by have := ih.1; dsimp only; omega, ih.2.1, fun v hv => ?_, fun hok => (by cases hok), fun _ => rfl⟩
        have hv2 : v ∈ ([] : List Int) := hv
        exact absurd hv2 List.not_mem_nil
      · have h2 := ih.2.2.2.1 hm
        refine ⟨by have := ih.1; dsimp only; omega, ih.2.1, fun v hv => ?_, fun _ => ⟨by rw [List.length_cons]; dsimp only; omega, ?_⟩, fun hok => (by cases hok)⟩
        · rcases List.mem_append.mp hv with h3 | h3
          · exact s1.2.2.1 v h3
          · exact ih.2.2.1 v h3
        · show ((tz_st (tz_nx L t) c i).2.2 ++ (tz_mt (tz_nx L t) F (tz_st (tz_nx L t) c i).2.1).2.2).length = _
          rw [List.length_append, s2.2, h2.2]
          rfl
/-! the class -/
/-- the reader's memory: the cursor at i, A kept of the command under way -/
def tz_PS (M0 : ts_M) (i : Int) (A : List Int) (m : ts_M) : Prop :=
  (∀ (a : Nat) (j : Int), ¬ (a = 160 ∧ (j = 5 ∨ j = 6)) → a ≠ 163 → m.1 a j = M0.1 a j) ∧ m.2 = M0.2 ∧ m.1 160 5 = i ∧ m.1 160 6 = (if M0.1 160 4 ≤ 11 then (A.length : Int) else 0) ∧
  (∀ j : Int, j < 3 * M0.1 160 4 → m.1 163 j = M0.1 163 j) ∧ (M0.1 160 4 ≤ 11 → ∀ k : Nat, k < A.length → m.1 163 (3 * M0.1 160 4 + (k : Int)) = A.getD k 0)
def tz_P0 (M0 : ts_M) : Prop := tz_tx (M0.1 160 3) (M0.1 161) ∧ 0 ≤ M0.1 160 4 ∧ M0.1 160 4 ≤ 12
def tz_cc (M0 : ts_M) : Int → Int := tz_nx (M0.1 160 3) (M0.1 161)
theorem tz_PS_L (h : tz_PS M0 i A m) : m.1 160 3 = M0.1 160 3 := h.1 160 3 (by omega) (by decide)
theorem tz_PS_n (h : tz_PS M0 i A m) : m.1 160 4 = M0.1 160 4 := h.1 160 4 (by omega) (by decide)
theorem tz_PS_t (h : tz_PS M0 i A m) : m.1 161 = M0.1 161 := by funext j; exact h.1 161 j (by omega) (by decide)
theorem tz_PS_mv (h : tz_PS M0 i A m) : tz_PS M0 x A (ts_si m 160 5 x) := by
  obtain ⟨h1, h2, h3, h4, h5, h6⟩ := h
  refine ⟨fun a j g1 g2 => ?_, h2, tz_si_a, by rw [tz_si_k (by decide)]; exact h4, fun j hj => by rw [ts_si_ne (by decide)]; exact h5 j hj, fun h k hk => by rw [ts_si_ne (by decide)]; exact h6 h k hk⟩
  rw [show (ts_si m 160 5 x).1 a j = m.1 a j from if_neg (by omega)]
  exact h1 a j g1 g2
/-- a kept number -/
theorem tz_PS_kp (h : tz_PS M0 i A m) (h0 : 0 ≤ M0.1 160 4 ∧ M0.1 160 4 ≤ 12) (hA : A.length < 3) (hQ : ∀ m' : ts_M, tz_PS M0 i (A ++ [x]) m' → Qv m') : wX7_keepArgument x Qv m := by
  have hn := tz_PS_n h
  obtain ⟨h1, h2, h3, h4, h5, h6⟩ := h
  simp only [wX7_keepArgument, wX7_keepArgument_B42, forall_eq]
  rw [hn, h4]
  by_cases c1 : M0.1 160 4 ≤ 11
  · rw [if_pos c1] at h4 ⊢
    rw [tz_n (x := M0.1 160 4 * 3 + (A.length : Int)) (by omega) (by omega), tz_n (x := ((36 : Nat) : Int)) (by omega) (by omega), tz_x (by omega), tz_x (by omega), tz_p ⟨by omega, by omega⟩]
    have e6 : (ts_si m 163 (M0.1 160 4 * 3 + (A.length : Int)) x).1 160 6 = (A.length : Int) := by rw [ts_si_ne (by decide)]; exact h4
    rw [e6]
    refine hQ _ ⟨fun a j g1 g2 => ?_, h2, ?_, ?_, fun j hj => ?_, fun _ k hk => ?_⟩
    · rw [show (ts_si (ts_si m 163 (M0.1 160 4 * 3 + (A.length : Int)) x) 160 6 ((A.length : Int) + 1)).1 a j = (ts_si m 163 (M0.1 160 4 * 3 + (A.length : Int)) x).1 a j from if_neg (by omega), ts_si_ne g2]
      exact h1 a j g1 g2
    · rw [tz_si_k (by decide), ts_si_ne (by decide)]; exact h3
    · rw [tz_si_a, if_pos c1, List.length_append]; show _ = ((A.length + 1 : Nat) : Int); omega
    · rw [ts_si_ne (by decide), tz_si_k (by omega)]; exact h5 j hj
    · rw [ts_si_ne (by decide)]
      rw [List.length_append] at hk
      by_cases c2 : k = A.length
      · subst c2
        rw [show 3 * M0.1 160 4 + (A.length : Int) = M0.1 160 4 * 3 + (A.length : Int) by omega, tz_si_a, tz_gD_r (Nat.le_refl _), Nat.sub_self]
        rfl
      · have hk2 : k < A.length := by
          have : k < A.length + 1 := hk
          omega
        rw [tz_si_k (by omega), tz_gD_l hk2]
        exact h6 c1 k hk2
  · rw [if_neg c1] at h4 ⊢
    rw [tz_n (x := M0.1 160 4 * 3 + 0) (by omega) (by omega), tz_n (x := ((36 : Nat) : Int)) (by omega) (by omega), tz_x (by omega), tz_y (by omega)]
    exact hQ m ⟨h1, h2, h3, by rw [if_neg c1]; exact h4, h5, fun h => absurd h c1⟩
theorem tc_take (hP : tz_P0 M0) (h : tz_PS M0 i A m) (h0 : 0 ≤ i) (h1 : i ≤ M0.1 160 3) (hc : 32 ≤ c ∧ c ≤ 126) (hy : tz_cc M0 i = c → ∀ m' : ts_M, tz_PS M0 (i + 1) A m' → Q 1 m') (hn : tz_cc M0 i ≠ c → Q 0 m) : wX7_take c Q m := by
  have hL := hP.1.1
  have hr := tz_nx_rng hP.1 h0
  have e3 := tz_PS_L h
  have e5 := h.2.2.1
  have et := tz_PS_t h
  simp only [wX7_take, wX7_take_B24, forall_eq]
  rw [e3, e5, et, tz_n (x := M0.1 160 3) (by omega) (by omega), tz_n (x := i) (by omega) (by omega), tz_n (x := c) (by omega) (by omega)]
  unfold tz_cc tz_nx at *
  by_cases c1 : M0.1 160 3 ≤ i
  · rw [tz_y c1]
    rw [if_pos c1] at hn
    exact hn (by omega)
  · rw [tz_x c1, tz_p ⟨h0, by omega⟩]
    rw [if_neg c1] at hr hn hy
    rw [tz_n (x := M0.1 161 i) (by omega) (by omega)]
    by_cases c2 : M0.1 161 i = c
    · rw [tz_y c2]; exact hy c2 _ (tz_PS_mv h)
    · rw [tz_x c2]; exact hn c2
/-- a number of at most one or two digits -/
theorem tc_num1 {sg : Int} (hP : tz_P0 M0) (h : tz_PS M0 i A m) (h0 : 0 ≤ i) (h1 : i ≤ M0.1 160 3) (hs : sg = 1 ∨ sg = -1) (hA : A.length < 3) (hy : tz_dg (tz_cc M0 i) = true → ∀ m' : ts_M, tz_PS M0 (i + 1) (A ++ [sg * (tz_cc M0 i - 48)]) m' → Q 1 m') (hn : tz_dg (tz_cc M0 i) = false → Q 0 m) : wX7_takeNumber 1 sg Q m := by
  have hL := hP.1.1
  have hr := tz_nx_rng hP.1 h0
  have e3 := tz_PS_L h
  have e5 := h.2.2.1
  have et := tz_PS_t h
  simp only [wX7_takeNumber, forall_eq]
  refine ⟨2, ?_⟩
  show wX7_takeNumber_L5 Q (ts_lp4 (wX7_takeNumber_L5 Q) 1) 1 sg 0 0 m
  simp only [wX7_takeNumber_L5, wX7_takeNumber_B75, wX7_takeNumber_B87, wX7_takeNumber_B97, forall_eq]
  rw [e3, e5, et, tz_n0, tz_n1, tz_n (x := M0.1 160 3) (by omega) (by omega), tz_n (x := i) (by omega) (by omega), tz_x (by decide)]
  unfold tz_cc tz_nx at *
  by_cases c1 : M0.1 160 3 ≤ i
  · rw [tz_y c1, tz_y (by decide), tz_y (by decide), tz_h0]
    rw [if_pos c1] at hn
    exact hn (by decide)
  · rw [if_neg c1] at hr hn hy
    have hb : ∀ {Q2 : Int → ts_M → Prop}, wX11_isBetween (M0.1 161 i) 48 57 Q2 m ↔ Q2 (tz_i (tz_in 48 (M0.1 161 i) 57)) m := fun {Q2} => tc_isBetween (tz_n (by omega) (by omega)) (tz_n (by omega) (by omega)) (tz_n (by omega) (by omega))
    rw [tz_x c1, tz_p ⟨h0, by omega⟩, hb, tz_iw, tz_iz]
    cases hd : tz_in 48 (M0.1 161 i) 57
    · rw [tz_y rfl, tz_y (by decide), tz_y (by decide), tz_h0]
      exact hn hd
    · have hd2 := tz_in_t.mp hd
      have hps : tz_PS M0 (i + 1) A (ts_si m 160 5 (i + 1)) := tz_PS_mv h
      rw [e5, et, tz_n (x := i) (by omega) (by omega), tz_x (by decide), tz_p ⟨h0, by omega⟩]
      show wX7_takeNumber_L5 Q (ts_lp4 (wX7_takeNumber_L5 Q) 0) 1 sg (0 * 10 + M0.1 161 i - 48) (0 + 1) (ts_si m 160 5 (i + 1))
      simp only [wX7_takeNumber_L5, wX7_takeNumber_B75, wX7_takeNumber_B87, wX7_takeNumber_B97, forall_eq, Int.zero_add, Int.zero_mul]
      rw [tz_n1, tz_y (by decide), tz_x (by decide)]
      refine tz_PS_kp hps hP.2 hA (fun m' hm' => ?_)
      rw [tz_x (by decide), tz_h1]
      exact hy hd m' hm'
theorem tc_num2 {sg : Int} (hP : tz_P0 M0) (h : tz_PS M0 i A m) (h0 : 0 ≤ i) (h1 : i ≤ M0.1 160 3) (hs : sg = 1 ∨ sg = -1) (hA : A.length < 3) (hQ : ∀ m' : ts_M, ((tz_nm2 (tz_cc M0) i).1 = true → tz_PS M0 (tz_nm2 (tz_cc M0) i).2.1 (A ++ (tz_nm2 (tz_cc M0) i).2.2.map (fun v => sg * v)) m') → ((tz_nm2 (tz_cc M0) i).1 = false → m' = m) → Q (tz_i (tz_nm2 (tz_cc M0) i).1) m') : wX7_takeNumber 2 sg Q m := by
  have hL := hP.1.1
  have hr := tz_nx_rng hP.1 h0
  have hr2 := tz_nx_rng (i := i + 1) hP.1 (by omega)
  have e3 := tz_PS_L h
  have e5 := h.2.2.1
  have et := tz_PS_t h
  simp only [wX7_takeNumber, forall_eq]
  refine ⟨3, ?_⟩
  show wX7_takeNumber_L5 Q (ts_lp4 (wX7_takeNumber_L5 Q) 2) 2 sg 0 0 m
  simp only [wX7_takeNumber_L5, wX7_takeNumber_B75, wX7_takeNumber_B87, wX7_takeNumber_B97, forall_eq]
  rw [e3, e5, et, tz_n0, tz_n2, tz_n (x := M0.1 160 3) (by omega) (by omega), tz_n (x := i) (by omega) (by omega), tz_x (by decide)]
  unfold tz_nm2 tz_cc tz_nx at hQ
  unfold tz_nx at hr hr2
  by_cases c1 : M0.1 160 3 ≤ i
  · rw [tz_y c1, tz_y (by decide), tz_y (by decide), tz_h0]
    rw [if_pos c1, show tz_dg (-1) = false from rfl, if_neg (by decide)] at hQ
    exact hQ m (fun h => by cases h) (fun _ => rfl)
  · rw [if_neg c1] at hr hQ
    have hb : ∀ {Q2 : Int → ts_M → Prop}, wX11_isBetween (M0.1 161 i) 48 57 Q2 m ↔ Q2 (tz_i (tz_in 48 (M0.1 161 i) 57)) m := fun {Q2} => tc_isBetween (tz_n (by omega) (by omega)) (tz_n (by omega) (by omega)) (tz_n (by omega) (by omega))
    rw [tz_x c1, tz_p ⟨h0, by omega⟩, hb, tz_iw, tz_iz]
    cases hd : tz_in 48 (M0.1 161 i) 57
    · rw [show tz_dg (M0.1 161 i) = false from hd, if_neg (by decide)] at hQ
      rw [tz_y rfl, tz_y (by decide), tz_y (by decide), tz_h0]
      exact hQ m (fun h => by cases h) (fun _ => rfl)
    · have hd2 := tz_in_t.mp hd
      rw [show tz_dg (M0.1 161 i) = true from hd, if_pos rfl] at hQ
      have hps : tz_PS M0 (i + 1) A (ts_si m 160 5 (i + 1)) := tz_PS_mv h
      have f3 := tz_PS_L hps
      have f5 := hps.2.2.1
      have ft := tz_PS_t hps
      rw [e5, et, tz_n (x := i) (by omega) (by omega), tz_x (by decide), tz_p ⟨h0, by omega⟩]
      generalize ts_si m 160 5 (i + 1) = m1 at *
      show wX7_takeNumber_L5 Q (ts_lp4 (wX7_takeNumber_L5 Q) 1) 2 sg (0 * 10 + M0.1 161 i - 48) (0 + 1) m1
      simp only [wX7_takeNumber_L5, wX7_takeNumber_B75, wX7_takeNumber_B87, wX7_takeNumber_B97, forall_eq, Int.zero_add, Int.zero_mul]
      rw [f3, f5, ft, tz_n1, tz_n2, tz_n (x := M0.1 160 3) (by omega) (by omega), tz_n (x := i + 1) (by omega) (by omega), tz_x (by decide)]
      by_cases c2 : M0.1 160 3 ≤ i + 1
      · rw [tz_y c2, tz_x (by decide)]
        rw [if_pos c2, show tz_dg (-1) = false from rfl, if_neg (by decide)] at hQ
        refine tz_PS_kp hps hP.2 hA (fun m' hm' => ?_)
        rw [tz_x (by decide), tz_h1]
        exact hQ m' (fun _ => hm') (fun h => by cases h)
      · rw [if_neg c2] at hr2 hQ
        have hb2 : ∀ {Q2 : Int → ts_M → Prop}, wX11_isBetween (M0.1 161 (i + 1)) 48 57 Q2 m1 ↔ Q2 (tz_i (tz_in 48 (M0.1 161 (i + 1)) 57)) m1 := fun {Q2} => tc_isBetween (tz_n (by omega) (by omega)) (tz_n (by omega) (by omega)) (tz_n (by omega) (by omega))
        rw [tz_x c2, tz_p ⟨by omega, by omega⟩, hb2, tz_iw, tz_iz]
        cases hd3 : tz_in 48 (M0.1 161 (i + 1)) 57
        · rw [show tz_dg (M0.1 161 (i + 1)) = false from hd3, if_neg (by decide)] at hQ
          rw [tz_y rfl, tz_x (by decide)]
          refine tz_PS_kp hps hP.2 hA (fun m' hm' => ?_)
          rw [tz_x (by decide), tz_h1]
          exact hQ m' (fun _ => hm') (fun h => by cases h)
        · have hd4 := tz_in_t.mp hd3
          rw [show tz_dg (M0.1 161 (i + 1)) = true from hd3, if_pos rfl] at hQ
          have hps2 : tz_PS M0 (i + 2) A (ts_si m1 160 5 (i + 1 + 1)) := by
            rw [show i + 1 + 1 = i + 2 by omega]; exact tz_PS_mv hps
          rw [f5, ft, tz_n (x := i + 1) (by omega) (by omega), tz_x (by decide), tz_p ⟨by omega, by omega⟩]
          show wX7_takeNumber_L5 Q (ts_lp4 (wX7_takeNumber_L5 Q) 0) 2 sg ((M0.1 161 i - 48) * 10 + M0.1 161 (i + 1) - 48) (1 + 1) (ts_si m1 160 5 (i + 1 + 1))
          simp only [wX7_takeNumber_L5, wX7_takeNumber_B75, wX7_takeNumber_B87, wX7_takeNumber_B97]
          rw [show (1 : Int) + 1 = 2 from rfl, tz_n2, tz_y (by decide), tz_x (by decide)]
          refine tz_PS_kp hps2 hP.2 hA (fun m' hm' => ?_)
          rw [tz_x (by decide), tz_g1]
          refine hQ m' (fun _ => ?_) (fun h => by cases h)
          show tz_PS M0 (i + 2) (A ++ [sg * (10 * (M0.1 161 i - 48) + (M0.1 161 (i + 1) - 48))]) m'
          rw [show 10 * (M0.1 161 i - 48) + (M0.1 161 (i + 1) - 48) = (M0.1 161 i - 48) * 10 + M0.1 161 (i + 1) - 48 by omega]
          exact hm'
/-- one part of a form -/
theorem tc_part (hP : tz_P0 M0) (h : tz_PS M0 i A m) (h0 : 0 ≤ i) (h1 : i ≤ M0.1 160 3) (hc : 32 ≤ c ∧ c ≤ 126) (hA : c = 68 ∨ c = 78 ∨ c = 83 → A.length < 3) (hy : (tz_st (tz_cc M0) c i).1 = true → ∀ m' : ts_M, tz_PS M0 (tz_st (tz_cc M0) c i).2.1 (A ++ (tz_st (tz_cc M0) c i).2.2) m' → Q 1 m') (hn : (tz_st (tz_cc M0) c i).1 = false → ∀ m' : ts_M, tz_PS M0 (tz_st (tz_cc M0) c i).2.1 A m' → Q 0 m') : wX7_takePart c Q m := by
  have hL := hP.1.1
  have hn2 : ∀ {j : Int} {m1 : ts_M} {sg : Int}, 0 ≤ j → j ≤ M0.1 160 3 → (sg = 1 ∨ sg = -1) → A.length < 3 → tz_PS M0 j A m1 → ((tz_nm2 (tz_cc M0) j).1 = true → ∀ m' : ts_M, tz_PS M0 (tz_nm2 (tz_cc M0) j).2.1 (A ++ (tz_nm2 (tz_cc M0) j).2.2.map (fun v => sg * v)) m' → Q 1 m') → ((tz_nm2 (tz_cc M0) j).1 = false → ∀ m' : ts_M, tz_PS M0 j A m' → Q 0 m') → wX7_takeNumber 2 sg (fun r m => (ts_w r = 0 ∨ ts_w r = 1) ∧ Q r m) m1 := fun {j m1 sg} g0 g1 gs gA gh gy gn => by
    refine tc_num2 hP gh g0 g1 gs gA (fun m' k1 k2 => ?_)
    rw [tz_iw]
    cases ho : (tz_nm2 (tz_cc M0) j).1
    · refine ⟨Or.inl rfl, ?_⟩
      rw [k2 ho]
      exact gn ho m1 gh
    · refine ⟨Or.inr rfl, ?_⟩
      exact gy ho m' (k1 ho)
  have hfail : ∀ j : Int, (tz_nm2 (tz_cc M0) j).1 = false → (tz_nm2 (tz_cc M0) j).2.1 = j := fun j g => by
    unfold tz_nm2 at g ⊢
    cases h5 : tz_dg (tz_cc M0 j)
    · rfl
    · rw [h5, if_pos rfl] at g
      cases h6 : tz_dg (tz_cc M0 (j + 1)) <;> rw [h6] at g <;> cases g
  simp only [wX7_takePart, wX7_takePart_B66]
  rw [tz_n (x := c) (by omega) (by omega)]
  unfold tz_st at hy hn
  by_cases c1 : c = 68
  · rw [if_pos c1] at hy hn
    rw [tz_y c1]
    refine tc_num1 hP h h0 h1 (Or.inl rfl) (hA (Or.inl c1)) (fun g m' hm' => ?_) (fun g => ?_)
    · refine ⟨Or.inr rfl, ?_⟩
      rw [g, if_pos rfl] at hy
      refine hy rfl m' ?_
      show tz_PS M0 (i + 1) (A ++ [tz_cc M0 i - 48]) m'
      rw [Int.one_mul] at hm'
      exact hm'
    · refine ⟨Or.inl rfl, ?_⟩
      rw [g, if_neg (by decide)] at hn
      exact hn rfl m h
  · rw [if_neg c1] at hy hn
    rw [tz_x c1]
    by_cases c2 : c = 78
    · rw [if_pos c2] at hy hn
      rw [tz_y c2]
      refine hn2 h0 h1 (Or.inl rfl) (hA (Or.inr (Or.inl c2))) h (fun g m' hm' => hy g m' ?_) (fun g m' hm' => hn g m' (by rw [hfail i g]; exact hm'))
      rw [show (fun v : Int => 1 * v) = id by funext v; exact Int.one_mul v, List.map_id] at hm'
      exact hm'
    · rw [if_neg c2] at hy hn
      rw [tz_x c2]
      by_cases c3 : c = 83
      · rw [if_pos c3] at hy hn
        rw [tz_y c3]
        have hA3 := hA (Or.inr (Or.inr c3))
        refine tc_take hP h h0 h1 ⟨by omega, by omega⟩ (fun g m1 hm1 => ?_) (fun g => ?_)
        · have hi1 : i + 1 ≤ M0.1 160 3 := by
            have := tz_nx_rng hP.1 h0
            have g2 : tz_nx (M0.1 160 3) (M0.1 161) i = 45 := g
            omega
          rw [tz_n1, tz_x (by decide)]
          rw [if_pos g] at hy hn
          refine hn2 (by omega) hi1 (Or.inr rfl) hA3 hm1 (fun g2 m' hm' => hy g2 m' ?_) (fun g2 m' hm' => hn g2 m' (by show tz_PS M0 (tz_nm2 (tz_cc M0) (i + 1)).2.1 A m'; rw [hfail (i + 1) g2]; exact hm'))
          rw [show (fun v : Int => -1 * v) = (fun v => -v) by funext v; omega] at hm'
          exact hm'
        · rw [tz_n0, tz_y (by decide)]
          rw [if_neg g] at hy hn
          refine hn2 h0 h1 (Or.inl rfl) hA3 h (fun g2 m' hm' => hy g2 m' ?_) (fun g2 m' hm' => hn g2 m' (by rw [hfail i g2]; exact hm'))
          rw [show (fun v : Int => 1 * v) = id by funext v; exact Int.one_mul v, List.map_id] at hm'
          exact hm'
      · rw [if_neg c3] at hy hn
        rw [tz_x c3]
        refine tc_take hP h h0 h1 hc (fun g m1 hm1 => ?_) (fun g => ?_)
        · refine ⟨Or.inr rfl, ?_⟩
          rw [if_pos g] at hy
          refine hy rfl m1 ?_
          show tz_PS M0 (i + 1) (A ++ []) m1
          rw [List.append_nil]; exact hm1
        · refine ⟨Or.inl rfl, ?_⟩
          rw [if_neg g] at hn
          exact hn rfl m h
/-- the JDK's length and character of a form -/
theorem tc_sLen {q : Nat} (h : ts_ln q = (n : Int)) (hn : n ≤ 100) : wJ0_length_8abf5 q Q m ↔ Q (n : Int) m := by
  simp only [wJ0_length_8abf5, wJ0_coder_7d493, wJ0_coder_7d493_B14]
  rw [tz_x (by decide), tz_n0, tz_p ⟨by decide, by decide⟩, h]
  have h2 : ∀ n : Fin 101, ts_shr (n.val : Int) 0 = (n.val : Int) := by decide +kernel
  rw [show ts_shr (n : Int) 0 = (n : Int) from h2 ⟨n, by omega⟩]
theorem tc_sAt {q : Nat} (h : ts_ln q = (n : Int)) (hn : n ≤ 100) (hj : j < n) (hb : ts_i2c (ts_and (ts_bt q (j : Int)) 255) = c) (hc : 0 ≤ c ∧ c ≤ 126) : wJ0_charAt_5068e q (j : Int) Q m ↔ Q c m := by
  simp only [wJ0_charAt_5068e, wJ0_isLatin1_aae02, wJ0_isLatin1_aae02_B17, wJ0_isLatin1_aae02_B18, wJ1_charAt_3b067, wJ0_checkIndex_df160, wJ3_checkIndex_8e157]
  rw [tz_x (by decide), tz_y2 (by decide), tz_g1, tz_n1, tz_x (by decide), h, tz_n (x := (j : Int)) (by omega) (by omega), tz_n (x := (n : Int)) (by omega) (by omega), tz_x (by omega), tz_y (by omega), tz_p ⟨by omega, by omega⟩, hb, tz_n (x := c) (by omega) (by omega), tz_p ⟨by omega, by omega⟩, tz_p ⟨by omega, by omega⟩]
/-- a form -/
theorem tc_follows (hq : q < 12) (hP : tz_P0 M0) (h : tz_PS M0 i A m) (h0 : 0 ≤ i) (h1 : i ≤ M0.1 160 3) (hy : (tz_mt (tz_cc M0) (tz_fm q) i).1 = true → ∀ m' : ts_M, tz_PS M0 (tz_mt (tz_cc M0) (tz_fm q) i).2.1 (tz_mt (tz_cc M0) (tz_fm q) i).2.2 m' → Q 1 m') (hn : (tz_mt (tz_cc M0) (tz_fm q) i).1 = false → ∀ (m' : ts_M) (A' : List Int), tz_PS M0 (tz_mt (tz_cc M0) (tz_fm q) i).2.1 A' m' → Q 0 m') : wX7_follows q Q m := by
  obtain ⟨hl, hl10, hna⟩ := tz_fm_ln ⟨q, hq⟩
  have hbt : ∀ j : Nat, j < (tz_fm q).length → ts_i2c (ts_and (ts_bt q (j : Int)) 255) = (tz_fm q).getD j 0 ∧ 32 ≤ (tz_fm q).getD j 0 ∧ (tz_fm q).getD j 0 ≤ 126 := fun j hj => tz_fm_bt ⟨q, hq⟩ ⟨j, Nat.lt_of_lt_of_le hj hl10⟩ hj
  dsimp only at hl hl10 hna
  generalize tz_fm q = F at *
  have hz : tz_PS M0 i [] (ts_si m 160 6 0) := by
    obtain ⟨g1, g2, g3, g4, g5, g6⟩ := h
    refine ⟨fun a j k1 k2 => ?_, g2, by rw [tz_si_k (by decide)]; exact g3, by rw [tz_si_a]; split <;> rfl, fun j hj => by rw [ts_si_ne (by decide)]; exact g5 j hj, fun _ k hk => absurd hk (Nat.not_lt_zero k)⟩
    rw [show (ts_si m 160 6 0).1 a j = m.1 a j from if_neg (by omega)]
    exact g1 a j k1 k2
  simp only [wX7_follows, forall_eq]
  refine tz_ex1 (fun d x1 mm => ∃ (j : Nat) (i2 : Int) (A2 : List Int), x1 = (j : Int) ∧ j + d = F.length ∧ tz_PS M0 i2 A2 mm ∧ 0 ≤ i2 ∧ i2 ≤ M0.1 160 3 ∧ A2.length + tz_na (F.drop j) ≤ 3 ∧ (tz_mt (tz_cc M0) F i).1 = (tz_mt (tz_cc M0) (F.drop j) i2).1 ∧ (tz_mt (tz_cc M0) F i).2.1 = (tz_mt (tz_cc M0) (F.drop j) i2).2.1 ∧ ((tz_mt (tz_cc M0) F i).1 = true → (tz_mt (tz_cc M0) F i).2.2 = A2 ++ (tz_mt (tz_cc M0) (F.drop j) i2).2.2)) F.length ⟨0, i, [], rfl, by omega, hz, h0, h1, by rw [List.drop_zero]; exact (by simpa using hna), by rw [List.drop_zero], by rw [List.drop_zero], fun _ => by rw [List.drop_zero, List.nil_append]⟩ ?_
  rintro k0 d x1 mm ⟨j, i2, A2, rfl, hd, hm, g0, g1, gA, e1, e2, e3⟩ hk
  simp only [wX7_follows_L7, forall_eq]
  rw [tc_sLen hl (by omega), tz_n (x := (F.length : Int)) (by omega) (by omega), tz_n (x := (j : Int)) (by omega) (by omega)]
  by_cases c1 : j = F.length
  · rw [tz_y (by omega)]
    rw [c1, List.drop_length] at e1 e2 e3
    have e4 : (tz_mt (tz_cc M0) F i).1 = true := e1
    refine hy e4 mm ?_
    rw [e2, e3 e4]
    show tz_PS M0 i2 (A2 ++ []) mm
    rw [List.append_nil]; exact hm
  · have hj : j < F.length := by omega
    have hb := hbt j hj
    have hdr : F.drop j = F.getD j 0 :: F.drop (j + 1) := by
      rw [List.drop_eq_getElem_cons hj]
      congr 1
      rw [List.getD_eq_getElem?_getD, List.getElem?_eq_getElem hj]; rfl
    rw [tz_x (by omega), tc_sAt hl (by omega) hj hb.1 ⟨by omega, by omega⟩]
    generalize F.getD j 0 = c at *
    rw [hdr] at e1 e2 e3 gA
    have gA2 : A2.length + ((if c = 68 ∨ c = 78 ∨ c = 83 then 1 else 0) + tz_na (F.drop (j + 1))) ≤ 3 := gA
    have st := tz_st_rng hP.1 g0 g1 hb.2.1
    refine tc_part hP hm g0 g1 ⟨hb.2.1, hb.2.2⟩ (fun h => ?_) (fun ho m' hm' => ?_) (fun ho m' hm' => ?_)
    · rw [if_pos h] at gA2; omega
    · have st2 := (st.2.2.2.1 ho).2
      have e5 : tz_mt (tz_cc M0) (c :: F.drop (j + 1)) i2 = ((tz_mt (tz_cc M0) (F.drop (j + 1)) (tz_st (tz_cc M0) c i2).2.1).1, (tz_mt (tz_cc M0) (F.drop (j + 1)) (tz_st (tz_cc M0) c i2).2.1).2.1, if (tz_mt (tz_cc M0) (F.drop (j + 1)) (tz_st (tz_cc M0) c i2).2.1).1 then (tz_st (tz_cc M0) c i2).2.2 ++ (tz_mt (tz_cc M0) (F.drop (j + 1)) (tz_st (tz_cc M0) c i2).2.1).2.2 else []) := by
        conv => lhs; unfold tz_mt
        rw [if_pos ho]
      rw [e5] at e1 e2 e3
      rw [tz_n1, tz_x2 (by decide)]
      refine hk (d - 1) _ _ (by omega) ⟨j + 1, (tz_st (tz_cc M0) c i2).2.1, A2 ++ (tz_st (tz_cc M0) c i2).2.2, by omega, by omega, hm', by have := st.1; unfold tz_cc; omega, st.2.1, ?_, e1, e2, fun ht => ?_⟩
      · rw [List.length_append]
        have st3 : (tz_st (tz_cc M0) c i2).2.2.length = if c = 68 ∨ c = 78 ∨ c = 83 then 1 else 0 := st2
        omega
      · rw [e3 ht, List.append_assoc]
        rw [e1] at ht
        dsimp only at ht
        dsimp only
        rw [if_pos ht]
    · have e5 : tz_mt (tz_cc M0) (c :: F.drop (j + 1)) i2 = (false, (tz_st (tz_cc M0) c i2).2.1, []) := by
        conv => lhs; unfold tz_mt
        rw [if_neg (by rw [ho]; decide)]
      rw [e5] at e1 e2
      rw [tz_n0, tz_y2 (by decide)]
      refine hn e1 m' A2 ?_
      rw [e2]; exact hm'
theorem tz_fm_32 : ∀ q : Fin 12, ∀ c ∈ tz_fm q.val, 32 ≤ c := by decide +kernel
/-- the command's words that follow; after them the reader holds them as its cnt-th command -/
def tz_PK (M0 : ts_M) (i c : Int) (A : List Int) (m : ts_M) : Prop :=
  (∀ (a : Nat) (j : Int), ¬ (a = 160 ∧ (j = 4 ∨ j = 5 ∨ j = 6)) → a ≠ 162 → a ≠ 163 → m.1 a j = M0.1 a j) ∧ m.2 = M0.2 ∧ m.1 160 5 = i ∧ m.1 160 4 = M0.1 160 4 + 1 ∧
  (∀ j : Int, j < M0.1 160 4 → m.1 162 j = M0.1 162 j) ∧ m.1 162 (M0.1 160 4) = c ∧
  (∀ j : Int, j < 3 * M0.1 160 4 → m.1 163 j = M0.1 163 j) ∧ ∀ k : Nat, k < A.length → m.1 163 (3 * M0.1 160 4 + (k : Int)) = A.getD k 0
theorem tc_readCommand (hP : tz_P0 M0) (hi : M0.1 160 5 = i) (h0 : 0 ≤ i) (h1 : i ≤ M0.1 160 3) (hy : (tz_rd (tz_cc M0) i 12 0 i).1 = true → M0.1 160 4 ≤ 11 → ∀ m' : ts_M, tz_PK M0 (tz_rd (tz_cc M0) i 12 0 i).2.2.1 (tz_rd (tz_cc M0) i 12 0 i).2.1 (tz_rd (tz_cc M0) i 12 0 i).2.2.2 m' → Q 1 m') (hz : (tz_rd (tz_cc M0) i 12 0 i).1 = true → M0.1 160 4 ≤ 11) (hn : (tz_rd (tz_cc M0) i 12 0 i).1 = false → ∀ m' : ts_M, (∀ (a : Nat) (j : Int), ¬ (a = 160 ∧ (j = 5 ∨ j = 6)) → a ≠ 163 → m'.1 a j = M0.1 a j) → m'.2 = M0.2 → m'.1 160 5 = (tz_rd (tz_cc M0) i 12 0 i).2.2.1 → (∀ j : Int, j < 3 * M0.1 160 4 → m'.1 163 j = M0.1 163 j) → Q 0 m') : wX7_readCommand Q M0 := by
  have hL := hP.1.1
  simp only [wX7_readCommand, forall_eq]
  rw [hi]
  refine tz_ex4 (fun d x1 x2 x3 x4 mm => ∃ k : Nat, x1 = i ∧ i ≤ x2 ∧ x2 ≤ M0.1 160 3 ∧ x3 = 12 ∧ x4 = (k : Int) ∧ k + d = 12 ∧ (∃ (i2 : Int) (A2 : List Int), (M0.1 160 4 ≤ 11 → M0.1 160 6 = 0 ∨ True) ∧ (∀ (a : Nat) (j : Int), ¬ (a = 160 ∧ (j = 5 ∨ j = 6)) → a ≠ 163 → mm.1 a j = M0.1 a j) ∧ mm.2 = M0.2 ∧ (∀ j : Int, j < 3 * M0.1 160 4 → mm.1 163 j = M0.1 163 j)) ∧ tz_rd (tz_cc M0) i 12 0 i = tz_rd (tz_cc M0) i d k x2) 12 ⟨0, rfl, Int.le_refl _, h1, rfl, rfl, rfl, ⟨i, [], fun _ => Or.inr trivial, fun _ _ _ _ => rfl, rfl, fun _ _ => rfl⟩, rfl⟩ ?_
  rintro k0 d x1 x2 x3 x4 mm ⟨k, rfl, i1, i2, rfl, rfl, hd, ⟨-, -, -, f1, f2, f3⟩, he⟩ hk
  simp only [wX7_readCommand_L18, forall_eq]
  rw [tz_n (x := (12 : Int)) (by decide) (by decide), tz_n (x := (k : Int)) (by omega) (by omega)]
  cases d with
  | zero =>
    rw [tz_y (by omega)]
    rw [he] at hn
    refine hn rfl _ (fun a j g1 g2 => ?_) f2 tz_si_a (fun j hj => by rw [ts_si_ne (by decide)]; exact f3 j hj)
    rw [show (ts_si mm 160 5 x2).1 a j = mm.1 a j from if_neg (by omega)]
    exact f1 a j g1 g2
  | succ d =>
    have hps : tz_PS M0 x1 [] (ts_si (ts_si mm 160 5 x1) 160 6 0) := ⟨fun a j g1 g2 => by
        rw [show (ts_si (ts_si mm 160 5 x1) 160 6 0).1 a j = (ts_si mm 160 5 x1).1 a j from if_neg (by omega), show (ts_si mm 160 5 x1).1 a j = mm.1 a j from if_neg (by omega)]
        exact f1 a j g1 g2, f2, by rw [tz_si_k (by decide), tz_si_a], by rw [tz_si_a]; split <;> rfl, fun j hj => by rw [ts_si_ne (by decide), ts_si_ne (by decide)]; exact f3 j hj, fun _ k hk => absurd hk (Nat.not_lt_zero k)⟩
    rw [tz_x (by omega), tz_p ⟨by omega, by omega⟩, tz_p ⟨by omega, by omega⟩]
    rw [show ((k : Int)).toNat = k from rfl]
    have hmr := tz_mt_rng hP.1 (F := tz_fm k) h0 h1 (tz_fm_32 ⟨k, by omega⟩)
    have hst : tz_rd (tz_cc M0) x1 (d + 1) k x2 = if (tz_mt (tz_cc M0) (tz_fm k) x1).1 then (true, (k : Int), (tz_mt (tz_cc M0) (tz_fm k) x1).2.1, (tz_mt (tz_cc M0) (tz_fm k) x1).2.2) else tz_rd (tz_cc M0) x1 d (k + 1) (if x2 < (tz_mt (tz_cc M0) (tz_fm k) x1).2.1 then (tz_mt (tz_cc M0) (tz_fm k) x1).2.1 else x2) := rfl
    rw [hst] at he
    -- follows sets the number of arguments to 0 first
    have hfol : ∀ {Q2 : Int → ts_M → Prop}, wX7_follows k Q2 (ts_si (ts_si mm 160 5 x1) 160 6 0) → wX7_follows k Q2 (ts_si mm 160 5 x1) := fun {Q2} hh => by
      have e7 : ts_si (ts_si (ts_si mm 160 5 x1) 160 6 0) 160 6 0 = ts_si (ts_si mm 160 5 x1) 160 6 0 := by
        refine Prod.ext (funext fun a => funext fun j => ?_) rfl
        show (if a = 160 ∧ j = 6 then (0 : Int) else (ts_si (ts_si mm 160 5 x1) 160 6 0).1 a j) = (ts_si (ts_si mm 160 5 x1) 160 6 0).1 a j
        split
        · rename_i h; rw [h.1, h.2, tz_si_a]
        · rfl
      simp only [wX7_follows, forall_eq] at hh ⊢
      rw [e7] at hh
      exact hh
    refine hfol (tc_follows (by omega) hP hps h0 h1 (fun ho m' hm' => ?_) (fun ho m' A' hm' => ?_))
    · rw [tz_n1, tz_x (by decide)]
      rw [if_pos ho] at he
      have hz2 := hz (by rw [he])
      have hn4 := tz_PS_n hm'
      simp only [wX7_keep, wX7_keep_B29, forall_eq]
      rw [hn4, tz_n (x := M0.1 160 4) (by have := hP.2; omega) (by have := hP.2; omega), tz_x (by omega), tz_p ⟨by have := hP.2; omega, by omega⟩, tz_p ⟨by omega, by omega⟩]
      rw [he] at hy
      refine hy rfl hz2 _ ?_
      obtain ⟨p1, p2, p3, p4, p5, p6⟩ := hm'
      have e4 : (ts_si m' 162 (M0.1 160 4) (k : Int)).1 160 4 = M0.1 160 4 := by rw [ts_si_ne (by decide)]; exact hn4
      rw [e4]
      refine ⟨fun a j g1 g2 g3 => ?_, p2, ?_, tz_si_a, fun j hj => ?_, ?_, fun j hj => ?_, fun kk hkk => ?_⟩
      · rw [show (ts_si (ts_si m' 162 (M0.1 160 4) (k : Int)) 160 4 (M0.1 160 4 + 1)).1 a j = (ts_si m' 162 (M0.1 160 4) (k : Int)).1 a j from if_neg (by omega), ts_si_ne g2]
        exact p1 a j (by omega) g3
      · rw [tz_si_k (by decide), ts_si_ne (by decide)]; exact p3
      · rw [ts_si_ne (by decide), tz_si_k (by omega)]; exact p1 162 j (by omega) (by decide)
      · rw [ts_si_ne (by decide), tz_si_a]
      · rw [ts_si_ne (by decide), ts_si_ne (by decide)]; exact p5 j hj
      · rw [ts_si_ne (by decide), ts_si_ne (by decide)]; exact p6 hz2 kk hkk
    · rw [if_neg (by rw [ho]; decide)] at he
      have e5 := hm'.2.2.1
      rw [tz_n0, tz_y rfl, e5]
      simp only [wJ9_max_7cf53, wJ9_max_7cf53_B10, forall_eq]
      have hc2 : x1 ≤ (tz_mt (tz_cc M0) (tz_fm k) x1).2.1 ∧ (tz_mt (tz_cc M0) (tz_fm k) x1).2.1 ≤ M0.1 160 3 := ⟨hmr.1, hmr.2.1⟩
      rw [tz_n (x := x2) (by omega) (by omega), tz_n (x := (tz_mt (tz_cc M0) (tz_fm k) x1).2.1) (by omega) (by omega)]
      have hgo : ∀ y : Int, y = (if x2 < (tz_mt (tz_cc M0) (tz_fm k) x1).2.1 then (tz_mt (tz_cc M0) (tz_fm k) x1).2.1 else x2) → k0 x1 y 12 ((k : Int) + 1) m' := fun y hyy => by
        refine hk d _ _ _ _ _ (by omega) ⟨k + 1, rfl, ?_, ?_, rfl, by omega, by omega, ⟨0, [], fun _ => Or.inr trivial, hm'.1, hm'.2.1, hm'.2.2.2.2.1⟩, ?_⟩
        · rw [hyy]; split <;> omega
        · rw [hyy]; split <;> omega
        · rw [he, hyy]
      by_cases c3 : x2 < (tz_mt (tz_cc M0) (tz_fm k) x1).2.1
      · rw [tz_y c3]
        exact hgo _ (by rw [if_pos c3])
      · rw [tz_x c3]
        exact hgo _ (by rw [if_neg c3])
end TZQ
