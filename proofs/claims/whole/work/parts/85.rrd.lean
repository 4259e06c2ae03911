/-! ===== the reference's reader ===== -/
def tz_cr (M0 : ts_M) : Int → Int := tz_nx (M0.1 164 14) (M0.1 173)
def tz_R0 (M0 : ts_M) : Prop := tz_tx (M0.1 164 14) (M0.1 173)
/-- the reader's memory: the cursor at i, the sort s, the numbers A -/
def tz_RS2 (M0 : ts_M) (i s : Int) (A : List Int) (m : ts_M) : Prop := (∀ (a : Nat) (j : Int), ¬ (a = 164 ∧ (j = 15 ∨ j = 19)) → a ≠ 174 → m.1 a j = M0.1 a j) ∧ m.2 = M0.2 ∧ m.1 164 15 = i ∧ m.1 164 19 = s ∧ ∀ k : Nat, k < A.length → m.1 174 (k : Int) = A.getD k 0
def tz_so (c : Int) : Int := if c = 0 then 115 else if c = 1 then 112 else if c = 2 then 109 else if c = 3 then 97 else if c = 4 then 113 else if c = 5 then 99 else if c = 6 then 106 else if c = 7 then 107 else if c = 8 then 118 else if c = 9 then 105 else if c = 10 then 100 else 117
def tz_chn : List Int → Nat → (Int → ts_M → Prop) → ts_M → Prop
  | [], _, Q, m => Q 1 m
  | c :: F, a, Q, m => if c = 68 then wX12_readsDigit (a : Int) (fun r M1 => (ts_w r = 0 → Q 0 M1) ∧ (¬ (ts_w r = 0) → tz_chn F (a + 1) Q M1)) m
    else if c = 78 then wX12_readsNumber (a : Int) (fun r M1 => (ts_w r = 0 → Q 0 M1) ∧ (¬ (ts_w r = 0) → tz_chn F (a + 1) Q M1)) m
    else wX12_reads c (fun r M1 => (ts_w r = 0 → Q 0 M1) ∧ (¬ (ts_w r = 0) → tz_chn F a Q M1)) m
section TZX
variable {L i c x s : Int} {F G A : List Int} {a b k j n f q : Nat} {Q : Int → ts_M → Prop} {Qv : ts_M → Prop} {M m M0 : ts_M}
theorem tz_RS2_mv (h : tz_RS2 M0 i s A m) : tz_RS2 M0 x s A (ts_si m 164 15 x) := by
  obtain ⟨h1, h2, h3, h4, h5⟩ := h
  refine ⟨fun a j g1 g2 => ?_, h2, tz_si_a, by rw [tz_si_k (by decide)]; exact h4, fun k hk => by rw [ts_si_ne (by decide)]; exact h5 k hk⟩
  rw [show (ts_si m 164 15 x).1 a j = m.1 a j from if_neg (by omega)]
  exact h1 a j g1 g2
theorem tz_RS2_so (h : tz_RS2 M0 i s A m) : tz_RS2 M0 i x A (ts_si m 164 19 x) := by
  obtain ⟨h1, h2, h3, h4, h5⟩ := h
  refine ⟨fun a j g1 g2 => ?_, h2, by rw [tz_si_k (by decide)]; exact h3, tz_si_a, fun k hk => by rw [ts_si_ne (by decide)]; exact h5 k hk⟩
  rw [show (ts_si m 164 19 x).1 a j = m.1 a j from if_neg (by omega)]
  exact h1 a j g1 g2
theorem tz_RS2_kp (h : tz_RS2 M0 i s A m) (ha : A.length = a) : tz_RS2 M0 i s (A ++ [x]) (ts_si m 174 (a : Int) x) := by
  obtain ⟨h1, h2, h3, h4, h5⟩ := h
  refine ⟨fun b j g1 g2 => by rw [ts_si_ne g2]; exact h1 b j g1 g2, h2, by rw [ts_si_ne (by decide)]; exact h3, by rw [ts_si_ne (by decide)]; exact h4, fun k hk => ?_⟩
  rw [List.length_append] at hk
  by_cases c2 : k = a
  · subst c2
    rw [tz_si_a, tz_gD_r (by omega), ← ha, Nat.sub_self]
    rfl
  · have hk2 : k < A.length := by
      have : k < A.length + 1 := hk
      omega
    rw [tz_si_k (by omega), tz_gD_l hk2]
    exact h5 k hk2
/-- the last number once more -/
theorem tz_RS2_up {y : Int} (h : tz_RS2 M0 i s (A ++ [y]) m) (ha : A.length = a) : tz_RS2 M0 i s (A ++ [x]) (ts_si m 174 (a : Int) x) := by
  obtain ⟨h1, h2, h3, h4, h5⟩ := h
  refine tz_RS2_kp ⟨h1, h2, h3, h4, fun k hk => ?_⟩ ha
  rw [h5 k (by rw [List.length_append]; omega), tz_gD_l hk]
theorem tm_nextChar (hP : tz_R0 M0) (h : tz_RS2 M0 i s A m) (h0 : 0 ≤ i) (h1 : i ≤ M0.1 164 14) : wX12_nextChar Q m ↔ Q (tz_cr M0 i) m := by
  have hL := hP.1
  have e14 : m.1 164 14 = M0.1 164 14 := h.1 164 14 (by omega) (by decide)
  have et : m.1 173 = M0.1 173 := by funext j; exact h.1 173 j (by omega) (by decide)
  simp only [wX12_nextChar, wX12_nextChar_B24]
  rw [e14, h.2.2.1, et, tz_n (x := M0.1 164 14) (by omega) (by omega), tz_n (x := i) (by omega) (by omega)]
  unfold tz_cr tz_nx
  by_cases c1 : M0.1 164 14 ≤ i
  · rw [tz_y c1, if_pos c1]
  · rw [tz_x c1, tz_p ⟨h0, by omega⟩, if_neg c1]
theorem tz_cr_w (hP : tz_R0 M0) (h0 : 0 ≤ i) : ts_w (tz_cr M0 i) = tz_cr M0 i := by
  have := tz_nx_rng hP h0
  unfold tz_cr
  exact tz_n (by omega) (by omega)
theorem tm_reads (hP : tz_R0 M0) (h : tz_RS2 M0 i s A m) (h0 : 0 ≤ i) (h1 : i ≤ M0.1 164 14) (hc : 32 ≤ c ∧ c ≤ 126) (hy : tz_cr M0 i = c → ∀ m' : ts_M, tz_RS2 M0 (i + 1) s A m' → i + 1 ≤ M0.1 164 14 → Q 1 m') (hn : tz_cr M0 i ≠ c → Q 0 m) : wX12_reads c Q m := by
  have hr := tz_nx_rng hP h0
  simp only [wX12_reads, forall_eq]
  rw [tm_nextChar hP h h0 h1, tz_cr_w hP h0, tz_n (x := c) (by omega) (by omega), h.2.2.1]
  by_cases c1 : tz_cr M0 i = c
  · rw [tz_y c1]
    refine hy c1 _ (tz_RS2_mv h) ?_
    unfold tz_cr at c1
    omega
  · rw [tz_x c1]; exact hn c1
theorem tm_dig (hP : tz_R0 M0) (h : tz_RS2 M0 i s A m) (h0 : 0 ≤ i) (h1 : i ≤ M0.1 164 14) (ha : A.length = a) (h3 : a < 3) (hy : tz_dg (tz_cr M0 i) = true → ∀ m' : ts_M, tz_RS2 M0 (i + 1) s (A ++ [tz_cr M0 i - 48]) m' → i + 1 ≤ M0.1 164 14 → Q 1 m') (hn : tz_dg (tz_cr M0 i) = false → Q 0 m) : wX12_readsDigit (a : Int) Q m := by
  have hr := tz_nx_rng hP h0
  have hw := tz_cr_w hP h0
  simp only [wX12_readsDigit, forall_eq]
  rw [tm_nextChar hP h h0 h1, tm_isBetween hw (tz_n (by decide) (by decide)) (tz_n (by decide) (by decide)), tz_iw, tz_iz]
  cases hd : tz_in 48 (tz_cr M0 i) 57
  · rw [tz_y2 (by decide)]; exact hn hd
  · have hd2 := tz_in_t.mp hd
    rw [tz_x2 (by decide), tm_nextChar hP h h0 h1, tz_n (x := (a : Int)) (by omega) (by omega), tz_p ⟨by omega, by omega⟩]
    have hk := tz_RS2_kp (x := tz_cr M0 i - 48) h ha
    rw [show (ts_si m 174 (a : Int) (tz_cr M0 i - 48)).1 164 15 = i from hk.2.2.1]
    refine hy hd _ (tz_RS2_mv hk) ?_
    unfold tz_cr at hd2
    omega
theorem tm_num (hP : tz_R0 M0) (h : tz_RS2 M0 i s A m) (h0 : 0 ≤ i) (h1 : i ≤ M0.1 164 14) (ha : A.length = a) (h3 : a < 3) (hy : (tz_nm2 (tz_cr M0) i).1 = true → ∀ m' : ts_M, tz_RS2 M0 (tz_nm2 (tz_cr M0) i).2.1 s (A ++ (tz_nm2 (tz_cr M0) i).2.2) m' → (tz_nm2 (tz_cr M0) i).2.1 ≤ M0.1 164 14 → Q 1 m') (hn : (tz_nm2 (tz_cr M0) i).1 = false → Q 0 m) : wX12_readsNumber (a : Int) Q m := by
  unfold tz_nm2 at hy hn
  simp only [wX12_readsNumber, forall_eq]
  refine tm_dig hP h h0 h1 ha h3 (fun hd m1 hm1 hi1 => ?_) (fun hd => ?_)
  · rw [hd, if_pos rfl] at hy
    have hr := tz_nx_rng (i := i + 1) hP (by omega)
    have hw := tz_cr_w (i := i + 1) hP (by omega)
    rw [tz_n1, tz_x2 (by decide), tm_nextChar hP hm1 (by omega) hi1, tm_isBetween hw (tz_n (by decide) (by decide)) (tz_n (by decide) (by decide)), tz_iw, tz_iz]
    cases hd2 : tz_in 48 (tz_cr M0 (i + 1)) 57
    · rw [show tz_dg (tz_cr M0 (i + 1)) = false from hd2, if_neg (by decide)] at hy
      rw [tz_y2 (by decide)]
      exact hy rfl m1 hm1 hi1
    · have hd3 := tz_in_t.mp hd2
      rw [show tz_dg (tz_cr M0 (i + 1)) = true from hd2, if_pos rfl] at hy
      rw [tz_x2 (by decide), tz_n (x := (a : Int)) (by omega) (by omega), tz_p ⟨by omega, by omega⟩, tm_nextChar hP hm1 (by omega) hi1, tz_p ⟨by omega, by omega⟩]
      have e1 : m1.1 174 (a : Int) = tz_cr M0 i - 48 := by
        rw [hm1.2.2.2.2 a (by rw [List.length_append]; show a < A.length + 1; omega), tz_gD_r (by omega), ha, Nat.sub_self]
        rfl
      rw [e1]
      have hk := tz_RS2_up (x := 10 * (tz_cr M0 i - 48) + tz_cr M0 (i + 1) - 48) hm1 ha
      rw [show (ts_si m1 174 (a : Int) (10 * (tz_cr M0 i - 48) + tz_cr M0 (i + 1) - 48)).1 164 15 = i + 1 from hk.2.2.1]
      refine hy rfl _ ?_ ?_
      · show tz_RS2 M0 (i + 2) s (A ++ [10 * (tz_cr M0 i - 48) + (tz_cr M0 (i + 1) - 48)]) _
        rw [show 10 * (tz_cr M0 i - 48) + (tz_cr M0 (i + 1) - 48) = 10 * (tz_cr M0 i - 48) + tz_cr M0 (i + 1) - 48 by omega, show i + 1 + 1 = i + 2 by omega]
        exact tz_RS2_mv hk
      · show i + 2 ≤ _
        unfold tz_cr at hd3
        omega
  · rw [hd, if_neg (by decide)] at hn
    rw [tz_n0, tz_y2 (by decide)]
    exact hn rfl
theorem tm_chn (hP : tz_R0 M0) : ∀ {F : List Int} {a : Nat} {i : Int} {A : List Int} {m : ts_M}, tz_RS2 M0 i s A m → 0 ≤ i → i ≤ M0.1 164 14 → A.length = a → a + tz_na F ≤ 3 → (∀ c ∈ F, 32 ≤ c ∧ c ≤ 126 ∧ c ≠ 83) → ((tz_mt (tz_cr M0) F i).1 = true → ∀ m' : ts_M, tz_RS2 M0 (tz_mt (tz_cr M0) F i).2.1 s (A ++ (tz_mt (tz_cr M0) F i).2.2) m' → Q 1 m') → ((tz_mt (tz_cr M0) F i).1 = false → ∀ (m' : ts_M) (A' : List Int), tz_RS2 M0 (tz_mt (tz_cr M0) F i).2.1 s A' m' → Q 0 m') → tz_chn F a Q m
  | [], a, i, A, m, h, _, _, _, _, _, hy, _ => by
    have := hy rfl m
    rw [show (tz_mt (tz_cr M0) [] i).2.2 = [] from rfl, List.append_nil] at this
    exact this h
  | c :: F, a, i, A, m, h, h0, h1, ha, h3, hF, hy, hn => by
    have hc := hF c List.mem_cons_self
    have hF2 : ∀ d ∈ F, 32 ≤ d ∧ d ≤ 126 ∧ d ≠ 83 := fun d hd => hF d (List.mem_cons_of_mem _ hd)
    have h32 : (if c = 68 ∨ c = 78 ∨ c = 83 then 1 else 0) + tz_na F = tz_na (c :: F) := rfl
    -- a part that follows, and one that doesn't
    have hyes : ∀ (v : List Int) (p : Int) (m1 : ts_M), tz_st (tz_cr M0) c i = (true, p, v) → tz_RS2 M0 p s (A ++ v) m1 → 0 ≤ p → p ≤ M0.1 164 14 → v.length = (if c = 68 ∨ c = 78 ∨ c = 83 then 1 else 0) → tz_chn F (a + v.length) Q m1 := fun v p m1 es hm g0 g1 hv => by
      have e5 : tz_mt (tz_cr M0) (c :: F) i = ((tz_mt (tz_cr M0) F p).1, (tz_mt (tz_cr M0) F p).2.1, if (tz_mt (tz_cr M0) F p).1 then v ++ (tz_mt (tz_cr M0) F p).2.2 else []) := by
        conv => lhs; unfold tz_mt
        rw [es]; exact if_pos rfl
      rw [e5] at hy hn
      refine tm_chn hP hm g0 g1 (by rw [List.length_append]; omega) (by omega) hF2 (fun ho m' hm' => hy ho m' ?_) (fun ho m' A' hm' => hn ho m' A' hm')
      dsimp only
      rw [if_pos ho, ← List.append_assoc]
      exact hm'
    have hno : ∀ p : Int, tz_st (tz_cr M0) c i = (false, p, []) → ∀ m1 : ts_M, tz_RS2 M0 p s A m1 → Q 0 m1 := fun p es m1 hm => by
      have e5 : tz_mt (tz_cr M0) (c :: F) i = (false, p, []) := by
        conv => lhs; unfold tz_mt
        rw [es]; exact if_neg Bool.false_ne_true
      rw [e5] at hn
      exact hn rfl m1 A hm
    unfold tz_chn
    by_cases c1 : c = 68
    · rw [if_pos c1]
      rw [if_pos (Or.inl c1)] at h32 hyes
      refine tm_dig hP h h0 h1 ha (by omega) (fun hd m1 hm1 hi1 => ?_) (fun hd => ?_)
      · rw [tz_n1, tz_x (by decide)]
        refine hyes [tz_cr M0 i - 48] (i + 1) m1 ?_ hm1 (by omega) hi1 rfl
        unfold tz_st; rw [if_pos c1, hd]; exact if_pos rfl
      · rw [tz_n0, tz_y rfl]
        refine hno i ?_ m h
        unfold tz_st; rw [if_pos c1, hd]; exact if_neg Bool.false_ne_true
    · rw [if_neg c1]
      by_cases c2 : c = 78
      · rw [if_pos c2]
        rw [if_pos (Or.inr (Or.inl c2))] at h32 hyes
        have es : tz_st (tz_cr M0) c i = tz_nm2 (tz_cr M0) i := by unfold tz_st; rw [if_neg c1, if_pos c2]
        have hnr := tz_nm2_rng (L := M0.1 164 14) (t := M0.1 173) hP h0 h1
        have hge := tz_nm2_ge (ch := tz_cr M0) (i := i)
        have hnm : (tz_nm2 (tz_cr M0) i).1 = false → tz_nm2 (tz_cr M0) i = (false, i, []) := fun g => by
          unfold tz_nm2 at g ⊢
          cases h5 : tz_dg (tz_cr M0 i)
          · exact if_neg Bool.false_ne_true
          · rw [h5, if_pos rfl] at g
            cases h6 : tz_dg (tz_cr M0 (i + 1)) <;> rw [h6] at g <;> cases g
        refine tm_num hP h h0 h1 ha (by omega) (fun ho m1 hm1 hi1 => ?_) (fun ho => ?_)
        · rw [tz_n1, tz_x (by decide)]
          have hl : (tz_nm2 (tz_cr M0) i).2.2.length = 1 := (hnr.2.2.2.1 ho).1
          have := hyes (tz_nm2 (tz_cr M0) i).2.2 (tz_nm2 (tz_cr M0) i).2.1 m1 (by rw [es, ← ho]) hm1 (by omega) hi1 hl
          rw [hl] at this
          exact this
        · rw [tz_n0, tz_y rfl]
          exact hno i (by rw [es]; exact hnm ho) m h
      · rw [if_neg c2]
        rw [if_neg (by omega)] at h32 hyes
        refine tm_reads hP h h0 h1 ⟨hc.1, hc.2.1⟩ (fun g m1 hm1 hi1 => ?_) (fun g => ?_)
        · rw [tz_n1, tz_x (by decide)]
          refine hyes [] (i + 1) m1 ?_ (by rw [List.append_nil]; exact hm1) (by omega) hi1 rfl
          unfold tz_st; rw [if_neg c1, if_neg c2, if_neg hc.2.2]; exact if_pos g
        · rw [tz_n0, tz_y rfl]
          refine hno i ?_ m h
          unfold tz_st; rw [if_neg c1, if_neg c2, if_neg hc.2.2]; exact if_neg g
/-- a leaf of the tree: the rest of a word -/
def tz_LY (M0 : ts_M) (i : Int) (Q : Int → ts_M → Prop) : Prop := (tz_rd (tz_cr M0) i 12 0 i).1 = true → ∀ m' : ts_M, tz_RS2 M0 (tz_rd (tz_cr M0) i 12 0 i).2.2.1 (tz_so (tz_rd (tz_cr M0) i 12 0 i).2.1) (tz_rd (tz_cr M0) i 12 0 i).2.2.2 m' → Q 1 m'
def tz_LN (M0 : ts_M) (i : Int) (Q : Int → ts_M → Prop) : Prop := (tz_rd (tz_cr M0) i 12 0 i).1 = false → ∀ (m' : ts_M) (s : Int) (A : List Int), tz_RS2 M0 (tz_rd (tz_cr M0) i 12 0 i).2.2.1 s A m' → Q 0 m'
theorem tm_leaf {p : Int} (hP : tz_R0 M0) (e : tz_rd (tz_cr M0) i 12 0 i = tz_lf (tz_cr M0) x F p) (hs : tz_so x = s) (h : tz_RS2 M0 p s [] m) (h0 : 0 ≤ p) (h1 : p ≤ M0.1 164 14) (h3 : tz_na F ≤ 3) (hF : ∀ c ∈ F, 32 ≤ c ∧ c ≤ 126 ∧ c ≠ 83) (hy : tz_LY M0 i Q) (hn : tz_LN M0 i Q) : tz_chn F 0 Q m := by
  unfold tz_LY at hy
  unfold tz_LN at hn
  rw [e] at hy hn
  unfold tz_lf at hy hn
  dsimp only at hy hn
  refine tm_chn hP h h0 h1 rfl (by omega) hF (fun ho m' hm' => hy ho m' ?_) (fun ho m' A' hm' => hn ho m' s A' hm')
  rw [if_pos ho, hs]
  rw [List.nil_append] at hm'
  exact hm'
end TZX
