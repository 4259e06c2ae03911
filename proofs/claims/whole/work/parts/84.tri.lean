/-! ===== the tree of words ===== -/
def tz_lf (ch : Int → Int) (k : Int) (F : List Int) (i : Int) : Bool × Int × Int × List Int := ((tz_mt ch F i).1, if (tz_mt ch F i).1 then k else -1, (tz_mt ch F i).2.1, (tz_mt ch F i).2.2)
section TZW
variable {i c : Int} {ch : Int → Int} {F : List Int}
theorem tz_nm2_ge : i ≤ (tz_nm2 ch i).2.1 := by
  unfold tz_nm2
  cases tz_dg (ch i)
  · exact Int.le_refl _
  · cases tz_dg (ch (i + 1))
    · show i ≤ i + 1; omega
    · show i ≤ i + 2; omega
theorem tz_st_ge : i ≤ (tz_st ch c i).2.1 := by
  have h1 := tz_nm2_ge (ch := ch) (i := i)
  have h2 := tz_nm2_ge (ch := ch) (i := i + 1)
  unfold tz_st
  split
  · split
    · show i ≤ i + 1; omega
    · exact Int.le_refl _
  · split
    · exact h1
    · split
      · split
        · show i ≤ (tz_nm2 ch (i + 1)).2.1; omega
        · exact h1
      · split
        · show i ≤ i + 1; omega
        · exact Int.le_refl _
theorem tz_mt_ge : ∀ {F : List Int} {i : Int}, i ≤ (tz_mt ch F i).2.1
  | [], i => Int.le_refl _
  | c :: F, i => by
    have h1 := tz_st_ge (ch := ch) (c := c) (i := i)
    have h2 := tz_mt_ge (F := F) (i := (tz_st ch c i).2.1)
    unfold tz_mt
    split
    · show i ≤ (tz_mt ch F (tz_st ch c i).2.1).2.1; omega
    · exact h1
theorem tz_mt_nil : ∀ {F : List Int} {i : Int}, (tz_mt ch F i).1 = false → (tz_mt ch F i).2.2 = []
  | [], i, h => by cases h
  | c :: F, i, h => by
    unfold tz_mt at h ⊢
    cases ho : (tz_st ch c i).1
    · rw [if_neg (by decide)]
    · rw [ho, if_pos rfl] at h
      rw [if_pos rfl]
      have h2 : (tz_mt ch F (tz_st ch c i).2.1).1 = false := h
      show (if (tz_mt ch F (tz_st ch c i).2.1).1 then _ else []) = []
      rw [h2, if_neg (by decide)]
theorem tz_mt_y (hc : c ≠ 68 ∧ c ≠ 78 ∧ c ≠ 83) (h : ch i = c) : tz_mt ch (c :: F) i = tz_mt ch F (i + 1) := by
  have hs : tz_st ch c i = (true, i + 1, []) := by
    unfold tz_st
    rw [if_neg hc.1, if_neg hc.2.1, if_neg hc.2.2, if_pos h]
  conv => lhs; unfold tz_mt
  rw [hs, if_pos rfl]
  have hn := tz_mt_nil (ch := ch) (F := F) (i := i + 1)
  dsimp only
  generalize tz_mt ch F (i + 1) = r at *
  obtain ⟨ok, p, l⟩ := r
  cases ok
  · have := hn rfl
    dsimp only at this
    rw [this]; rfl
  · rfl
theorem tz_mt_n (hc : c ≠ 68 ∧ c ≠ 78 ∧ c ≠ 83) (h : ch i ≠ c) : tz_mt ch (c :: F) i = (false, i, []) := by
  have hs : tz_st ch c i = (false, i, []) := by
    unfold tz_st
    rw [if_neg hc.1, if_neg hc.2.1, if_neg hc.2.2, if_neg h]
  conv => lhs; unfold tz_mt
  rw [hs]
  exact if_neg Bool.false_ne_true
/-- a form that fails early -/
def tz_ff (ch : Int → Int) (i x : Int) (k : Nat) : Prop := (tz_mt ch (tz_fm k) i).1 = false ∧ (tz_mt ch (tz_fm k) i).2.1 ≤ x
theorem tz_rd_a {x : Int} : ∀ (n k : Nat), (∀ j : Nat, k ≤ j → j < k + n → tz_ff ch i x j) → tz_rd ch i n k x = (false, -1, x, [])
  | 0, _, _ => rfl
  | n + 1, k, h => by
    have h1 := h k (Nat.le_refl k) (by omega)
    unfold tz_rd
    rw [if_neg (by rw [h1.1]; decide), if_neg (by have := h1.2; omega)]
    exact tz_rd_a n (k + 1) (fun j h2 h3 => h j (by omega) (by omega))
theorem tz_rd_b {x far : Int} {k0 : Nat} (hx : (tz_mt ch (tz_fm k0) i).2.1 = x) : ∀ (n k : Nat), k ≤ k0 → k0 < k + n → (∀ j : Nat, k ≤ j → j < k + n → j ≠ k0 → tz_ff ch i x j) → far ≤ x → ∀ {y : Int}, y ≤ x → tz_rd ch i n k y = tz_lf ch (k0 : Int) (tz_fm k0) i
  | 0, k, h1, h2, _, _, _, _ => by omega
  | n + 1, k, h1, h2, h, hf, y, hy => by
    unfold tz_rd
    by_cases c1 : k = k0
    · subst c1
      cases ho : (tz_mt ch (tz_fm k) i).1
      · have hn := tz_mt_nil ho
        rw [if_neg (by decide)]
        have e : (if y < (tz_mt ch (tz_fm k) i).2.1 then (tz_mt ch (tz_fm k) i).2.1 else y) = x := by rw [hx]; split <;> omega
        rw [e, tz_rd_a n (k + 1) (fun j h3 h4 => h j (by omega) (by omega) (by omega))]
        unfold tz_lf
        rw [ho, hn, hx]; rfl
      · rw [if_pos rfl]
        unfold tz_lf
        rw [ho]; rfl
    · have h3 := h k (Nat.le_refl k) (by omega) c1
      rw [if_neg (by rw [h3.1]; decide)]
      refine tz_rd_b (far := far) hx n (k + 1) (by omega) (by omega) (fun j h4 h5 h6 => h j (by omega) (by omega) h6) hf ?_
      have := h3.2
      split <;> omega
theorem tz_rd_one {x : Int} {k0 : Nat} (h0 : k0 < 12) (h1 : i ≤ x) (hx : x ≤ (tz_mt ch (tz_fm k0) i).2.1) (h : ∀ j : Nat, j < 12 → j ≠ k0 → tz_ff ch i x j) : tz_rd ch i 12 0 i = tz_lf ch (k0 : Int) (tz_fm k0) i :=
  tz_rd_b (far := i) rfl 12 0 (by omega) (by omega) (fun j _ h3 h4 => ⟨(h j (by omega) h4).1, by have := (h j (by omega) h4).2; omega⟩) (by omega) (by omega)
theorem tz_rd_12 {x : Int} {k0 : Nat} (e : ∀ j : Nat, j < 12 → j ≠ k0 → tz_ff ch i x j) : ∀ j : Nat, j < 12 → j ≠ k0 → tz_ff ch i x j := e

theorem tz_tr_spo (h0 : ch (i) = 115) (h1 : ch (i + 1) = 112) (h2 : ch (i + 1 + 1) = 111) : tz_rd ch i 12 0 i = tz_lf ch 0 [111, 110, 32, 68, 32, 78] (i + 1 + 1 + 1) := by
  have e0 : tz_mt ch (tz_fm 0) i = tz_mt ch [111, 110, 32, 68, 32, 78] (i + 1 + 1 + 1) := by
    show tz_mt ch [115, 112, 111, 111, 110, 32, 68, 32, 78] i = _
    rw [tz_mt_y (by decide) h0, tz_mt_y (by decide) h1, tz_mt_y (by decide) h2]
  have g0 := tz_mt_ge (ch := ch) (F := [111, 110, 32, 68, 32, 78]) (i := i + 1 + 1 + 1)
  rw [tz_rd_one (ch := ch) (i := i) (x := i + 1 + 1 + 1) (k0 := 0) (by decide) (by omega) (by rw [e0]; exact g0) (fun j hj hne => ?_)]
  · unfold tz_lf; rw [e0]; rfl
  · match j, hj, hne with
    | 0, _, hne => exact absurd rfl hne
    | 1, _, _ =>
      have e : tz_mt ch (tz_fm 1) i = (false, i, []) := by
        show tz_mt ch [112, 114, 111, 112, 111, 115, 101, 32, 78] i = _
        rw [tz_mt_n (by decide) (by rw [h0]; decide)]
      exact ⟨by rw [e], by rw [e]; dsimp only; omega⟩
    | 2, _, _ =>
      have e : tz_mt ch (tz_fm 2) i = (false, i, []) := by
        show tz_mt ch [109, 111, 118, 101, 32, 78] i = _
        rw [tz_mt_n (by decide) (by rw [h0]; decide)]
      exact ⟨by rw [e], by rw [e]; dsimp only; omega⟩
    | 3, _, _ =>
      have e : tz_mt ch (tz_fm 3) i = (false, i, []) := by
        show tz_mt ch [97, 109, 101, 110, 100, 32, 83] i = _
        rw [tz_mt_n (by decide) (by rw [h0]; decide)]
      exact ⟨by rw [e], by rw [e]; dsimp only; omega⟩
    | 4, _, _ =>
      have e : tz_mt ch (tz_fm 4) i = (false, i, []) := by
        show tz_mt ch [112, 111, 115, 116, 112, 111, 110, 101] i = _
        rw [tz_mt_n (by decide) (by rw [h0]; decide)]
      exact ⟨by rw [e], by rw [e]; dsimp only; omega⟩
    | 5, _, _ =>
      have e : tz_mt ch (tz_fm 5) i = (false, i, []) := by
        show tz_mt ch [99, 108, 111, 115, 101] i = _
        rw [tz_mt_n (by decide) (by rw [h0]; decide)]
      exact ⟨by rw [e], by rw [e]; dsimp only; omega⟩
    | 6, _, _ =>
      have e : tz_mt ch (tz_fm 6) i = (false, i, []) := by
        show tz_mt ch [97, 100, 106, 111, 117, 114, 110] i = _
        rw [tz_mt_n (by decide) (by rw [h0]; decide)]
      exact ⟨by rw [e], by rw [e]; dsimp only; omega⟩
    | 7, _, _ =>
      have e : tz_mt ch (tz_fm 7) i = (false, i + 1 + 1, []) := by
        show tz_mt ch [115, 112, 101, 97, 107, 32, 68] i = _
        rw [tz_mt_y (by decide) h0, tz_mt_y (by decide) h1, tz_mt_n (by decide) (by rw [h2]; decide)]
      exact ⟨by rw [e], by rw [e]; dsimp only; omega⟩
    | 8, _, _ =>
      have e : tz_mt ch (tz_fm 8) i = (false, i, []) := by
        show tz_mt ch [118, 111, 116, 101] i = _
        rw [tz_mt_n (by decide) (by rw [h0]; decide)]
      exact ⟨by rw [e], by rw [e]; dsimp only; omega⟩
    | 9, _, _ =>
      have e : tz_mt ch (tz_fm 9) i = (false, i + 1 + 1, []) := by
        show tz_mt ch [115, 112, 105, 108, 108, 32, 68, 68, 32, 78] i = _
        rw [tz_mt_y (by decide) h0, tz_mt_y (by decide) h1, tz_mt_n (by decide) (by rw [h2]; decide)]
      exact ⟨by rw [e], by rw [e]; dsimp only; omega⟩
    | 10, _, _ =>
      have e : tz_mt ch (tz_fm 10) i = (false, i, []) := by
        show tz_mt ch [109, 111, 112, 32, 68, 68] i = _
        rw [tz_mt_n (by decide) (by rw [h0]; decide)]
      exact ⟨by rw [e], by rw [e]; dsimp only; omega⟩
    | 11, _, _ =>
      have e : tz_mt ch (tz_fm 11) i = (false, i + 1, []) := by
        show tz_mt ch [115, 117, 103, 97, 114, 32, 68, 32, 68] i = _
        rw [tz_mt_y (by decide) h0, tz_mt_n (by decide) (by rw [h1]; decide)]
      exact ⟨by rw [e], by rw [e]; dsimp only; omega⟩
    | j + 12, hj, _ => omega
theorem tz_tr_spe (h0 : ch (i) = 115) (h1 : ch (i + 1) = 112) (h2 : ch (i + 1 + 1) = 101) : tz_rd ch i 12 0 i = tz_lf ch 7 [97, 107, 32, 68] (i + 1 + 1 + 1) := by
  have e0 : tz_mt ch (tz_fm 7) i = tz_mt ch [97, 107, 32, 68] (i + 1 + 1 + 1) := by
    show tz_mt ch [115, 112, 101, 97, 107, 32, 68] i = _
    rw [tz_mt_y (by decide) h0, tz_mt_y (by decide) h1, tz_mt_y (by decide) h2]
  have g0 := tz_mt_ge (ch := ch) (F := [97, 107, 32, 68]) (i := i + 1 + 1 + 1)
  rw [tz_rd_one (ch := ch) (i := i) (x := i + 1 + 1 + 1) (k0 := 7) (by decide) (by omega) (by rw [e0]; exact g0) (fun j hj hne => ?_)]
  · unfold tz_lf; rw [e0]; rfl
  · match j, hj, hne with
    | 0, _, _ =>
      have e : tz_mt ch (tz_fm 0) i = (false, i + 1 + 1, []) := by
        show tz_mt ch [115, 112, 111, 111, 110, 32, 68, 32, 78] i = _
        rw [tz_mt_y (by decide) h0, tz_mt_y (by decide) h1, tz_mt_n (by decide) (by rw [h2]; decide)]
      exact ⟨by rw [e], by rw [e]; dsimp only; omega⟩
    | 1, _, _ =>
      have e : tz_mt ch (tz_fm 1) i = (false, i, []) := by
        show tz_mt ch [112, 114, 111, 112, 111, 115, 101, 32, 78] i = _
        rw [tz_mt_n (by decide) (by rw [h0]; decide)]
      exact ⟨by rw [e], by rw [e]; dsimp only; omega⟩
    | 2, _, _ =>
      have e : tz_mt ch (tz_fm 2) i = (false, i, []) := by
        show tz_mt ch [109, 111, 118, 101, 32, 78] i = _
        rw [tz_mt_n (by decide) (by rw [h0]; decide)]
      exact ⟨by rw [e], by rw [e]; dsimp only; omega⟩
    | 3, _, _ =>
      have e : tz_mt ch (tz_fm 3) i = (false, i, []) := by
        show tz_mt ch [97, 109, 101, 110, 100, 32, 83] i = _
        rw [tz_mt_n (by decide) (by rw [h0]; decide)]
      exact ⟨by rw [e], by rw [e]; dsimp only; omega⟩
    | 4, _, _ =>
      have e : tz_mt ch (tz_fm 4) i = (false, i, []) := by
        show tz_mt ch [112, 111, 115, 116, 112, 111, 110, 101] i = _
        rw [tz_mt_n (by decide) (by rw [h0]; decide)]
      exact ⟨by rw [e], by rw [e]; dsimp only; omega⟩
    | 5, _, _ =>
      have e : tz_mt ch (tz_fm 5) i = (false, i, []) := by
        show tz_mt ch [99, 108, 111, 115, 101] i = _
        rw [tz_mt_n (by decide) (by rw [h0]; decide)]
      exact ⟨by rw [e], by rw [e]; dsimp only; omega⟩
    | 6, _, _ =>
      have e : tz_mt ch (tz_fm 6) i = (false, i, []) := by
        show tz_mt ch [97, 100, 106, 111, 117, 114, 110] i = _
        rw [tz_mt_n (by decide) (by rw [h0]; decide)]
      exact ⟨by rw [e], by rw [e]; dsimp only; omega⟩
    | 7, _, hne => exact absurd rfl hne
    | 8, _, _ =>
      have e : tz_mt ch (tz_fm 8) i = (false, i, []) := by
        show tz_mt ch [118, 111, 116, 101] i = _
        rw [tz_mt_n (by decide) (by rw [h0]; decide)]
      exact ⟨by rw [e], by rw [e]; dsimp only; omega⟩
    | 9, _, _ =>
      have e : tz_mt ch (tz_fm 9) i = (false, i + 1 + 1, []) := by
        show tz_mt ch [115, 112, 105, 108, 108, 32, 68, 68, 32, 78] i = _
        rw [tz_mt_y (by decide) h0, tz_mt_y (by decide) h1, tz_mt_n (by decide) (by rw [h2]; decide)]
      exact ⟨by rw [e], by rw [e]; dsimp only; omega⟩
    | 10, _, _ =>
      have e : tz_mt ch (tz_fm 10) i = (false, i, []) := by
        show tz_mt ch [109, 111, 112, 32, 68, 68] i = _
        rw [tz_mt_n (by decide) (by rw [h0]; decide)]
      exact ⟨by rw [e], by rw [e]; dsimp only; omega⟩
    | 11, _, _ =>
      have e : tz_mt ch (tz_fm 11) i = (false, i + 1, []) := by
        show tz_mt ch [115, 117, 103, 97, 114, 32, 68, 32, 68] i = _
        rw [tz_mt_y (by decide) h0, tz_mt_n (by decide) (by rw [h1]; decide)]
      exact ⟨by rw [e], by rw [e]; dsimp only; omega⟩
    | j + 12, hj, _ => omega
theorem tz_tr_spi (h0 : ch (i) = 115) (h1 : ch (i + 1) = 112) (n2o : ch (i + 1 + 1) ≠ 111) (n2e : ch (i + 1 + 1) ≠ 101) : tz_rd ch i 12 0 i = tz_lf ch 9 [105, 108, 108, 32, 68, 68, 32, 78] (i + 1 + 1) := by
  have e0 : tz_mt ch (tz_fm 9) i = tz_mt ch [105, 108, 108, 32, 68, 68, 32, 78] (i + 1 + 1) := by
    show tz_mt ch [115, 112, 105, 108, 108, 32, 68, 68, 32, 78] i = _
    rw [tz_mt_y (by decide) h0, tz_mt_y (by decide) h1]
  have g0 := tz_mt_ge (ch := ch) (F := [105, 108, 108, 32, 68, 68, 32, 78]) (i := i + 1 + 1)
  rw [tz_rd_one (ch := ch) (i := i) (x := i + 1 + 1) (k0 := 9) (by decide) (by omega) (by rw [e0]; exact g0) (fun j hj hne => ?_)]
  · unfold tz_lf; rw [e0]; rfl
  · match j, hj, hne with
    | 0, _, _ =>
      have e : tz_mt ch (tz_fm 0) i = (false, i + 1 + 1, []) := by
        show tz_mt ch [115, 112, 111, 111, 110, 32, 68, 32, 78] i = _
        rw [tz_mt_y (by decide) h0, tz_mt_y (by decide) h1, tz_mt_n (by decide) n2o]
      exact ⟨by rw [e], by rw [e]; dsimp only; omega⟩
    | 1, _, _ =>
      have e : tz_mt ch (tz_fm 1) i = (false, i, []) := by
        show tz_mt ch [112, 114, 111, 112, 111, 115, 101, 32, 78] i = _
        rw [tz_mt_n (by decide) (by rw [h0]; decide)]
      exact ⟨by rw [e], by rw [e]; dsimp only; omega⟩
    | 2, _, _ =>
      have e : tz_mt ch (tz_fm 2) i = (false, i, []) := by
        show tz_mt ch [109, 111, 118, 101, 32, 78] i = _
        rw [tz_mt_n (by decide) (by rw [h0]; decide)]
      exact ⟨by rw [e], by rw [e]; dsimp only; omega⟩
    | 3, _, _ =>
      have e : tz_mt ch (tz_fm 3) i = (false, i, []) := by
        show tz_mt ch [97, 109, 101, 110, 100, 32, 83] i = _
        rw [tz_mt_n (by decide) (by rw [h0]; decide)]
      exact ⟨by rw [e], by rw [e]; dsimp only; omega⟩
    | 4, _, _ =>
      have e : tz_mt ch (tz_fm 4) i = (false, i, []) := by
        show tz_mt ch [112, 111, 115, 116, 112, 111, 110, 101] i = _
        rw [tz_mt_n (by decide) (by rw [h0]; decide)]
      exact ⟨by rw [e], by rw [e]; dsimp only; omega⟩
    | 5, _, _ =>
      have e : tz_mt ch (tz_fm 5) i = (false, i, []) := by
        show tz_mt ch [99, 108, 111, 115, 101] i = _
        rw [tz_mt_n (by decide) (by rw [h0]; decide)]
      exact ⟨by rw [e], by rw [e]; dsimp only; omega⟩
    | 6, _, _ =>
      have e : tz_mt ch (tz_fm 6) i = (false, i, []) := by
        show tz_mt ch [97, 100, 106, 111, 117, 114, 110] i = _
        rw [tz_mt_n (by decide) (by rw [h0]; decide)]
      exact ⟨by rw [e], by rw [e]; dsimp only; omega⟩
    | 7, _, _ =>
      have e : tz_mt ch (tz_fm 7) i = (false, i + 1 + 1, []) := by
        show tz_mt ch [115, 112, 101, 97, 107, 32, 68] i = _
        rw [tz_mt_y (by decide) h0, tz_mt_y (by decide) h1, tz_mt_n (by decide) n2e]
      exact ⟨by rw [e], by rw [e]; dsimp only; omega⟩
    | 8, _, _ =>
      have e : tz_mt ch (tz_fm 8) i = (false, i, []) := by
        show tz_mt ch [118, 111, 116, 101] i = _
        rw [tz_mt_n (by decide) (by rw [h0]; decide)]
      exact ⟨by rw [e], by rw [e]; dsimp only; omega⟩
    | 9, _, hne => exact absurd rfl hne
    | 10, _, _ =>
      have e : tz_mt ch (tz_fm 10) i = (false, i, []) := by
        show tz_mt ch [109, 111, 112, 32, 68, 68] i = _
        rw [tz_mt_n (by decide) (by rw [h0]; decide)]
      exact ⟨by rw [e], by rw [e]; dsimp only; omega⟩
    | 11, _, _ =>
      have e : tz_mt ch (tz_fm 11) i = (false, i + 1, []) := by
        show tz_mt ch [115, 117, 103, 97, 114, 32, 68, 32, 68] i = _
        rw [tz_mt_y (by decide) h0, tz_mt_n (by decide) (by rw [h1]; decide)]
      exact ⟨by rw [e], by rw [e]; dsimp only; omega⟩
    | j + 12, hj, _ => omega
theorem tz_tr_su (h0 : ch (i) = 115) (n1p : ch (i + 1) ≠ 112) : tz_rd ch i 12 0 i = tz_lf ch 11 [117, 103, 97, 114, 32, 68, 32, 68] (i + 1) := by
  have e0 : tz_mt ch (tz_fm 11) i = tz_mt ch [117, 103, 97, 114, 32, 68, 32, 68] (i + 1) := by
    show tz_mt ch [115, 117, 103, 97, 114, 32, 68, 32, 68] i = _
    rw [tz_mt_y (by decide) h0]
  have g0 := tz_mt_ge (ch := ch) (F := [117, 103, 97, 114, 32, 68, 32, 68]) (i := i + 1)
  rw [tz_rd_one (ch := ch) (i := i) (x := i + 1) (k0 := 11) (by decide) (by omega) (by rw [e0]; exact g0) (fun j hj hne => ?_)]
  · unfold tz_lf; rw [e0]; rfl
  · match j, hj, hne with
    | 0, _, _ =>
      have e : tz_mt ch (tz_fm 0) i = (false, i + 1, []) := by
        show tz_mt ch [115, 112, 111, 111, 110, 32, 68, 32, 78] i = _
        rw [tz_mt_y (by decide) h0, tz_mt_n (by decide) n1p]
      exact ⟨by rw [e], by rw [e]; dsimp only; omega⟩
    | 1, _, _ =>
      have e : tz_mt ch (tz_fm 1) i = (false, i, []) := by
        show tz_mt ch [112, 114, 111, 112, 111, 115, 101, 32, 78] i = _
        rw [tz_mt_n (by decide) (by rw [h0]; decide)]
      exact ⟨by rw [e], by rw [e]; dsimp only; omega⟩
    | 2, _, _ =>
      have e : tz_mt ch (tz_fm 2) i = (false, i, []) := by
        show tz_mt ch [109, 111, 118, 101, 32, 78] i = _
        rw [tz_mt_n (by decide) (by rw [h0]; decide)]
      exact ⟨by rw [e], by rw [e]; dsimp only; omega⟩
    | 3, _, _ =>
      have e : tz_mt ch (tz_fm 3) i = (false, i, []) := by
        show tz_mt ch [97, 109, 101, 110, 100, 32, 83] i = _
        rw [tz_mt_n (by decide) (by rw [h0]; decide)]
      exact ⟨by rw [e], by rw [e]; dsimp only; omega⟩
    | 4, _, _ =>
      have e : tz_mt ch (tz_fm 4) i = (false, i, []) := by
        show tz_mt ch [112, 111, 115, 116, 112, 111, 110, 101] i = _
        rw [tz_mt_n (by decide) (by rw [h0]; decide)]
      exact ⟨by rw [e], by rw [e]; dsimp only; omega⟩
    | 5, _, _ =>
      have e : tz_mt ch (tz_fm 5) i = (false, i, []) := by
        show tz_mt ch [99, 108, 111, 115, 101] i = _
        rw [tz_mt_n (by decide) (by rw [h0]; decide)]
      exact ⟨by rw [e], by rw [e]; dsimp only; omega⟩
    | 6, _, _ =>
      have e : tz_mt ch (tz_fm 6) i = (false, i, []) := by
        show tz_mt ch [97, 100, 106, 111, 117, 114, 110] i = _
        rw [tz_mt_n (by decide) (by rw [h0]; decide)]
      exact ⟨by rw [e], by rw [e]; dsimp only; omega⟩
    | 7, _, _ =>
      have e : tz_mt ch (tz_fm 7) i = (false, i + 1, []) := by
        show tz_mt ch [115, 112, 101, 97, 107, 32, 68] i = _
        rw [tz_mt_y (by decide) h0, tz_mt_n (by decide) n1p]
      exact ⟨by rw [e], by rw [e]; dsimp only; omega⟩
    | 8, _, _ =>
      have e : tz_mt ch (tz_fm 8) i = (false, i, []) := by
        show tz_mt ch [118, 111, 116, 101] i = _
        rw [tz_mt_n (by decide) (by rw [h0]; decide)]
      exact ⟨by rw [e], by rw [e]; dsimp only; omega⟩
    | 9, _, _ =>
      have e : tz_mt ch (tz_fm 9) i = (false, i + 1, []) := by
        show tz_mt ch [115, 112, 105, 108, 108, 32, 68, 68, 32, 78] i = _
        rw [tz_mt_y (by decide) h0, tz_mt_n (by decide) n1p]
      exact ⟨by rw [e], by rw [e]; dsimp only; omega⟩
    | 10, _, _ =>
      have e : tz_mt ch (tz_fm 10) i = (false, i, []) := by
        show tz_mt ch [109, 111, 112, 32, 68, 68] i = _
        rw [tz_mt_n (by decide) (by rw [h0]; decide)]
      exact ⟨by rw [e], by rw [e]; dsimp only; omega⟩
    | 11, _, hne => exact absurd rfl hne
    | j + 12, hj, _ => omega
theorem tz_tr_pr (h0 : ch (i) = 112) (h1 : ch (i + 1) = 114) : tz_rd ch i 12 0 i = tz_lf ch 1 [111, 112, 111, 115, 101, 32, 78] (i + 1 + 1) := by
  have e0 : tz_mt ch (tz_fm 1) i = tz_mt ch [111, 112, 111, 115, 101, 32, 78] (i + 1 + 1) := by
    show tz_mt ch [112, 114, 111, 112, 111, 115, 101, 32, 78] i = _
    rw [tz_mt_y (by decide) h0, tz_mt_y (by decide) h1]
  have g0 := tz_mt_ge (ch := ch) (F := [111, 112, 111, 115, 101, 32, 78]) (i := i + 1 + 1)
  rw [tz_rd_one (ch := ch) (i := i) (x := i + 1 + 1) (k0 := 1) (by decide) (by omega) (by rw [e0]; exact g0) (fun j hj hne => ?_)]
  · unfold tz_lf; rw [e0]; rfl
  · match j, hj, hne with
    | 0, _, _ =>
      have e : tz_mt ch (tz_fm 0) i = (false, i, []) := by
        show tz_mt ch [115, 112, 111, 111, 110, 32, 68, 32, 78] i = _
        rw [tz_mt_n (by decide) (by rw [h0]; decide)]
      exact ⟨by rw [e], by rw [e]; dsimp only; omega⟩
    | 1, _, hne => exact absurd rfl hne
    | 2, _, _ =>
      have e : tz_mt ch (tz_fm 2) i = (false, i, []) := by
        show tz_mt ch [109, 111, 118, 101, 32, 78] i = _
        rw [tz_mt_n (by decide) (by rw [h0]; decide)]
      exact ⟨by rw [e], by rw [e]; dsimp only; omega⟩
    | 3, _, _ =>
      have e : tz_mt ch (tz_fm 3) i = (false, i, []) := by
        show tz_mt ch [97, 109, 101, 110, 100, 32, 83] i = _
        rw [tz_mt_n (by decide) (by rw [h0]; decide)]
      exact ⟨by rw [e], by rw [e]; dsimp only; omega⟩
    | 4, _, _ =>
      have e : tz_mt ch (tz_fm 4) i = (false, i + 1, []) := by
        show tz_mt ch [112, 111, 115, 116, 112, 111, 110, 101] i = _
        rw [tz_mt_y (by decide) h0, tz_mt_n (by decide) (by rw [h1]; decide)]
      exact ⟨by rw [e], by rw [e]; dsimp only; omega⟩
    | 5, _, _ =>
      have e : tz_mt ch (tz_fm 5) i = (false, i, []) := by
        show tz_mt ch [99, 108, 111, 115, 101] i = _
        rw [tz_mt_n (by decide) (by rw [h0]; decide)]
      exact ⟨by rw [e], by rw [e]; dsimp only; omega⟩
    | 6, _, _ =>
      have e : tz_mt ch (tz_fm 6) i = (false, i, []) := by
        show tz_mt ch [97, 100, 106, 111, 117, 114, 110] i = _
        rw [tz_mt_n (by decide) (by rw [h0]; decide)]
      exact ⟨by rw [e], by rw [e]; dsimp only; omega⟩
    | 7, _, _ =>
      have e : tz_mt ch (tz_fm 7) i = (false, i, []) := by
        show tz_mt ch [115, 112, 101, 97, 107, 32, 68] i = _
        rw [tz_mt_n (by decide) (by rw [h0]; decide)]
      exact ⟨by rw [e], by rw [e]; dsimp only; omega⟩
    | 8, _, _ =>
      have e : tz_mt ch (tz_fm 8) i = (false, i, []) := by
        show tz_mt ch [118, 111, 116, 101] i = _
        rw [tz_mt_n (by decide) (by rw [h0]; decide)]
      exact ⟨by rw [e], by rw [e]; dsimp only; omega⟩
    | 9, _, _ =>
      have e : tz_mt ch (tz_fm 9) i = (false, i, []) := by
        show tz_mt ch [115, 112, 105, 108, 108, 32, 68, 68, 32, 78] i = _
        rw [tz_mt_n (by decide) (by rw [h0]; decide)]
      exact ⟨by rw [e], by rw [e]; dsimp only; omega⟩
    | 10, _, _ =>
      have e : tz_mt ch (tz_fm 10) i = (false, i, []) := by
        show tz_mt ch [109, 111, 112, 32, 68, 68] i = _
        rw [tz_mt_n (by decide) (by rw [h0]; decide)]
      exact ⟨by rw [e], by rw [e]; dsimp only; omega⟩
    | 11, _, _ =>
      have e : tz_mt ch (tz_fm 11) i = (false, i, []) := by
        show tz_mt ch [115, 117, 103, 97, 114, 32, 68, 32, 68] i = _
        rw [tz_mt_n (by decide) (by rw [h0]; decide)]
      exact ⟨by rw [e], by rw [e]; dsimp only; omega⟩
    | j + 12, hj, _ => omega
theorem tz_tr_po (h0 : ch (i) = 112) (n1r : ch (i + 1) ≠ 114) : tz_rd ch i 12 0 i = tz_lf ch 4 [111, 115, 116, 112, 111, 110, 101] (i + 1) := by
  have e0 : tz_mt ch (tz_fm 4) i = tz_mt ch [111, 115, 116, 112, 111, 110, 101] (i + 1) := by
    show tz_mt ch [112, 111, 115, 116, 112, 111, 110, 101] i = _
    rw [tz_mt_y (by decide) h0]
  have g0 := tz_mt_ge (ch := ch) (F := [111, 115, 116, 112, 111, 110, 101]) (i := i + 1)
  rw [tz_rd_one (ch := ch) (i := i) (x := i + 1) (k0 := 4) (by decide) (by omega) (by rw [e0]; exact g0) (fun j hj hne => ?_)]
  · unfold tz_lf; rw [e0]; rfl
  · match j, hj, hne with
    | 0, _, _ =>
      have e : tz_mt ch (tz_fm 0) i = (false, i, []) := by
        show tz_mt ch [115, 112, 111, 111, 110, 32, 68, 32, 78] i = _
        rw [tz_mt_n (by decide) (by rw [h0]; decide)]
      exact ⟨by rw [e], by rw [e]; dsimp only; omega⟩
    | 1, _, _ =>
      have e : tz_mt ch (tz_fm 1) i = (false, i + 1, []) := by
        show tz_mt ch [112, 114, 111, 112, 111, 115, 101, 32, 78] i = _
        rw [tz_mt_y (by decide) h0, tz_mt_n (by decide) n1r]
      exact ⟨by rw [e], by rw [e]; dsimp only; omega⟩
    | 2, _, _ =>
      have e : tz_mt ch (tz_fm 2) i = (false, i, []) := by
        show tz_mt ch [109, 111, 118, 101, 32, 78] i = _
        rw [tz_mt_n (by decide) (by rw [h0]; decide)]
      exact ⟨by rw [e], by rw [e]; dsimp only; omega⟩
    | 3, _, _ =>
      have e : tz_mt ch (tz_fm 3) i = (false, i, []) := by
        show tz_mt ch [97, 109, 101, 110, 100, 32, 83] i = _
        rw [tz_mt_n (by decide) (by rw [h0]; decide)]
      exact ⟨by rw [e], by rw [e]; dsimp only; omega⟩
    | 4, _, hne => exact absurd rfl hne
    | 5, _, _ =>
      have e : tz_mt ch (tz_fm 5) i = (false, i, []) := by
        show tz_mt ch [99, 108, 111, 115, 101] i = _
        rw [tz_mt_n (by decide) (by rw [h0]; decide)]
      exact ⟨by rw [e], by rw [e]; dsimp only; omega⟩
    | 6, _, _ =>
      have e : tz_mt ch (tz_fm 6) i = (false, i, []) := by
        show tz_mt ch [97, 100, 106, 111, 117, 114, 110] i = _
        rw [tz_mt_n (by decide) (by rw [h0]; decide)]
      exact ⟨by rw [e], by rw [e]; dsimp only; omega⟩
    | 7, _, _ =>
      have e : tz_mt ch (tz_fm 7) i = (false, i, []) := by
        show tz_mt ch [115, 112, 101, 97, 107, 32, 68] i = _
        rw [tz_mt_n (by decide) (by rw [h0]; decide)]
      exact ⟨by rw [e], by rw [e]; dsimp only; omega⟩
    | 8, _, _ =>
      have e : tz_mt ch (tz_fm 8) i = (false, i, []) := by
        show tz_mt ch [118, 111, 116, 101] i = _
        rw [tz_mt_n (by decide) (by rw [h0]; decide)]
      exact ⟨by rw [e], by rw [e]; dsimp only; omega⟩
    | 9, _, _ =>
      have e : tz_mt ch (tz_fm 9) i = (false, i, []) := by
        show tz_mt ch [115, 112, 105, 108, 108, 32, 68, 68, 32, 78] i = _
        rw [tz_mt_n (by decide) (by rw [h0]; decide)]
      exact ⟨by rw [e], by rw [e]; dsimp only; omega⟩
    | 10, _, _ =>
      have e : tz_mt ch (tz_fm 10) i = (false, i, []) := by
        show tz_mt ch [109, 111, 112, 32, 68, 68] i = _
        rw [tz_mt_n (by decide) (by rw [h0]; decide)]
      exact ⟨by rw [e], by rw [e]; dsimp only; omega⟩
    | 11, _, _ =>
      have e : tz_mt ch (tz_fm 11) i = (false, i, []) := by
        show tz_mt ch [115, 117, 103, 97, 114, 32, 68, 32, 68] i = _
        rw [tz_mt_n (by decide) (by rw [h0]; decide)]
      exact ⟨by rw [e], by rw [e]; dsimp only; omega⟩
    | j + 12, hj, _ => omega
theorem tz_tr_mov (h0 : ch (i) = 109) (h1 : ch (i + 1) = 111) (h2 : ch (i + 1 + 1) = 118) : tz_rd ch i 12 0 i = tz_lf ch 2 [101, 32, 78] (i + 1 + 1 + 1) := by
  have e0 : tz_mt ch (tz_fm 2) i = tz_mt ch [101, 32, 78] (i + 1 + 1 + 1) := by
    show tz_mt ch [109, 111, 118, 101, 32, 78] i = _
    rw [tz_mt_y (by decide) h0, tz_mt_y (by decide) h1, tz_mt_y (by decide) h2]
  have g0 := tz_mt_ge (ch := ch) (F := [101, 32, 78]) (i := i + 1 + 1 + 1)
  rw [tz_rd_one (ch := ch) (i := i) (x := i + 1 + 1 + 1) (k0 := 2) (by decide) (by omega) (by rw [e0]; exact g0) (fun j hj hne => ?_)]
  · unfold tz_lf; rw [e0]; rfl
  · match j, hj, hne with
    | 0, _, _ =>
      have e : tz_mt ch (tz_fm 0) i = (false, i, []) := by
        show tz_mt ch [115, 112, 111, 111, 110, 32, 68, 32, 78] i = _
        rw [tz_mt_n (by decide) (by rw [h0]; decide)]
      exact ⟨by rw [e], by rw [e]; dsimp only; omega⟩
    | 1, _, _ =>
      have e : tz_mt ch (tz_fm 1) i = (false, i, []) := by
        show tz_mt ch [112, 114, 111, 112, 111, 115, 101, 32, 78] i = _
        rw [tz_mt_n (by decide) (by rw [h0]; decide)]
      exact ⟨by rw [e], by rw [e]; dsimp only; omega⟩
    | 2, _, hne => exact absurd rfl hne
    | 3, _, _ =>
      have e : tz_mt ch (tz_fm 3) i = (false, i, []) := by
        show tz_mt ch [97, 109, 101, 110, 100, 32, 83] i = _
        rw [tz_mt_n (by decide) (by rw [h0]; decide)]
      exact ⟨by rw [e], by rw [e]; dsimp only; omega⟩
    | 4, _, _ =>
      have e : tz_mt ch (tz_fm 4) i = (false, i, []) := by
        show tz_mt ch [112, 111, 115, 116, 112, 111, 110, 101] i = _
        rw [tz_mt_n (by decide) (by rw [h0]; decide)]
      exact ⟨by rw [e], by rw [e]; dsimp only; omega⟩
    | 5, _, _ =>
      have e : tz_mt ch (tz_fm 5) i = (false, i, []) := by
        show tz_mt ch [99, 108, 111, 115, 101] i = _
        rw [tz_mt_n (by decide) (by rw [h0]; decide)]
      exact ⟨by rw [e], by rw [e]; dsimp only; omega⟩
    | 6, _, _ =>
      have e : tz_mt ch (tz_fm 6) i = (false, i, []) := by
        show tz_mt ch [97, 100, 106, 111, 117, 114, 110] i = _
        rw [tz_mt_n (by decide) (by rw [h0]; decide)]
      exact ⟨by rw [e], by rw [e]; dsimp only; omega⟩
    | 7, _, _ =>
      have e : tz_mt ch (tz_fm 7) i = (false, i, []) := by
        show tz_mt ch [115, 112, 101, 97, 107, 32, 68] i = _
        rw [tz_mt_n (by decide) (by rw [h0]; decide)]
      exact ⟨by rw [e], by rw [e]; dsimp only; omega⟩
    | 8, _, _ =>
      have e : tz_mt ch (tz_fm 8) i = (false, i, []) := by
        show tz_mt ch [118, 111, 116, 101] i = _
        rw [tz_mt_n (by decide) (by rw [h0]; decide)]
      exact ⟨by rw [e], by rw [e]; dsimp only; omega⟩
    | 9, _, _ =>
      have e : tz_mt ch (tz_fm 9) i = (false, i, []) := by
        show tz_mt ch [115, 112, 105, 108, 108, 32, 68, 68, 32, 78] i = _
        rw [tz_mt_n (by decide) (by rw [h0]; decide)]
      exact ⟨by rw [e], by rw [e]; dsimp only; omega⟩
    | 10, _, _ =>
      have e : tz_mt ch (tz_fm 10) i = (false, i + 1 + 1, []) := by
        show tz_mt ch [109, 111, 112, 32, 68, 68] i = _
        rw [tz_mt_y (by decide) h0, tz_mt_y (by decide) h1, tz_mt_n (by decide) (by rw [h2]; decide)]
      exact ⟨by rw [e], by rw [e]; dsimp only; omega⟩
    | 11, _, _ =>
      have e : tz_mt ch (tz_fm 11) i = (false, i, []) := by
        show tz_mt ch [115, 117, 103, 97, 114, 32, 68, 32, 68] i = _
        rw [tz_mt_n (by decide) (by rw [h0]; decide)]
      exact ⟨by rw [e], by rw [e]; dsimp only; omega⟩
    | j + 12, hj, _ => omega
theorem tz_tr_mop (h0 : ch (i) = 109) (h1 : ch (i + 1) = 111) (n2v : ch (i + 1 + 1) ≠ 118) : tz_rd ch i 12 0 i = tz_lf ch 10 [112, 32, 68, 68] (i + 1 + 1) := by
  have e0 : tz_mt ch (tz_fm 10) i = tz_mt ch [112, 32, 68, 68] (i + 1 + 1) := by
    show tz_mt ch [109, 111, 112, 32, 68, 68] i = _
    rw [tz_mt_y (by decide) h0, tz_mt_y (by decide) h1]
  have g0 := tz_mt_ge (ch := ch) (F := [112, 32, 68, 68]) (i := i + 1 + 1)
  rw [tz_rd_one (ch := ch) (i := i) (x := i + 1 + 1) (k0 := 10) (by decide) (by omega) (by rw [e0]; exact g0) (fun j hj hne => ?_)]
  · unfold tz_lf; rw [e0]; rfl
  · match j, hj, hne with
    | 0, _, _ =>
      have e : tz_mt ch (tz_fm 0) i = (false, i, []) := by
        show tz_mt ch [115, 112, 111, 111, 110, 32, 68, 32, 78] i = _
        rw [tz_mt_n (by decide) (by rw [h0]; decide)]
      exact ⟨by rw [e], by rw [e]; dsimp only; omega⟩
    | 1, _, _ =>
      have e : tz_mt ch (tz_fm 1) i = (false, i, []) := by
        show tz_mt ch [112, 114, 111, 112, 111, 115, 101, 32, 78] i = _
        rw [tz_mt_n (by decide) (by rw [h0]; decide)]
      exact ⟨by rw [e], by rw [e]; dsimp only; omega⟩
    | 2, _, _ =>
      have e : tz_mt ch (tz_fm 2) i = (false, i + 1 + 1, []) := by
        show tz_mt ch [109, 111, 118, 101, 32, 78] i = _
        rw [tz_mt_y (by decide) h0, tz_mt_y (by decide) h1, tz_mt_n (by decide) n2v]
      exact ⟨by rw [e], by rw [e]; dsimp only; omega⟩
    | 3, _, _ =>
      have e : tz_mt ch (tz_fm 3) i = (false, i, []) := by
        show tz_mt ch [97, 109, 101, 110, 100, 32, 83] i = _
        rw [tz_mt_n (by decide) (by rw [h0]; decide)]
      exact ⟨by rw [e], by rw [e]; dsimp only; omega⟩
    | 4, _, _ =>
      have e : tz_mt ch (tz_fm 4) i = (false, i, []) := by
        show tz_mt ch [112, 111, 115, 116, 112, 111, 110, 101] i = _
        rw [tz_mt_n (by decide) (by rw [h0]; decide)]
      exact ⟨by rw [e], by rw [e]; dsimp only; omega⟩
    | 5, _, _ =>
      have e : tz_mt ch (tz_fm 5) i = (false, i, []) := by
        show tz_mt ch [99, 108, 111, 115, 101] i = _
        rw [tz_mt_n (by decide) (by rw [h0]; decide)]
      exact ⟨by rw [e], by rw [e]; dsimp only; omega⟩
    | 6, _, _ =>
      have e : tz_mt ch (tz_fm 6) i = (false, i, []) := by
        show tz_mt ch [97, 100, 106, 111, 117, 114, 110] i = _
        rw [tz_mt_n (by decide) (by rw [h0]; decide)]
      exact ⟨by rw [e], by rw [e]; dsimp only; omega⟩
    | 7, _, _ =>
      have e : tz_mt ch (tz_fm 7) i = (false, i, []) := by
        show tz_mt ch [115, 112, 101, 97, 107, 32, 68] i = _
        rw [tz_mt_n (by decide) (by rw [h0]; decide)]
      exact ⟨by rw [e], by rw [e]; dsimp only; omega⟩
    | 8, _, _ =>
      have e : tz_mt ch (tz_fm 8) i = (false, i, []) := by
        show tz_mt ch [118, 111, 116, 101] i = _
        rw [tz_mt_n (by decide) (by rw [h0]; decide)]
      exact ⟨by rw [e], by rw [e]; dsimp only; omega⟩
    | 9, _, _ =>
      have e : tz_mt ch (tz_fm 9) i = (false, i, []) := by
        show tz_mt ch [115, 112, 105, 108, 108, 32, 68, 68, 32, 78] i = _
        rw [tz_mt_n (by decide) (by rw [h0]; decide)]
      exact ⟨by rw [e], by rw [e]; dsimp only; omega⟩
    | 10, _, hne => exact absurd rfl hne
    | 11, _, _ =>
      have e : tz_mt ch (tz_fm 11) i = (false, i, []) := by
        show tz_mt ch [115, 117, 103, 97, 114, 32, 68, 32, 68] i = _
        rw [tz_mt_n (by decide) (by rw [h0]; decide)]
      exact ⟨by rw [e], by rw [e]; dsimp only; omega⟩
    | j + 12, hj, _ => omega
theorem tz_tr_m (h0 : ch (i) = 109) (n1o : ch (i + 1) ≠ 111) : tz_rd ch i 12 0 i = tz_lf ch 2 [111, 118, 101, 32, 78] (i + 1) := by
  have e0 : tz_mt ch (tz_fm 2) i = tz_mt ch [111, 118, 101, 32, 78] (i + 1) := by
    show tz_mt ch [109, 111, 118, 101, 32, 78] i = _
    rw [tz_mt_y (by decide) h0]
  have g0 := tz_mt_ge (ch := ch) (F := [111, 118, 101, 32, 78]) (i := i + 1)
  rw [tz_rd_one (ch := ch) (i := i) (x := i + 1) (k0 := 2) (by decide) (by omega) (by rw [e0]; exact g0) (fun j hj hne => ?_)]
  · unfold tz_lf; rw [e0]; rfl
  · match j, hj, hne with
    | 0, _, _ =>
      have e : tz_mt ch (tz_fm 0) i = (false, i, []) := by
        show tz_mt ch [115, 112, 111, 111, 110, 32, 68, 32, 78] i = _
        rw [tz_mt_n (by decide) (by rw [h0]; decide)]
      exact ⟨by rw [e], by rw [e]; dsimp only; omega⟩
    | 1, _, _ =>
      have e : tz_mt ch (tz_fm 1) i = (false, i, []) := by
        show tz_mt ch [112, 114, 111, 112, 111, 115, 101, 32, 78] i = _
        rw [tz_mt_n (by decide) (by rw [h0]; decide)]
      exact ⟨by rw [e], by rw [e]; dsimp only; omega⟩
    | 2, _, hne => exact absurd rfl hne
    | 3, _, _ =>
      have e : tz_mt ch (tz_fm 3) i = (false, i, []) := by
        show tz_mt ch [97, 109, 101, 110, 100, 32, 83] i = _
        rw [tz_mt_n (by decide) (by rw [h0]; decide)]
      exact ⟨by rw [e], by rw [e]; dsimp only; omega⟩
    | 4, _, _ =>
      have e : tz_mt ch (tz_fm 4) i = (false, i, []) := by
        show tz_mt ch [112, 111, 115, 116, 112, 111, 110, 101] i = _
        rw [tz_mt_n (by decide) (by rw [h0]; decide)]
      exact ⟨by rw [e], by rw [e]; dsimp only; omega⟩
    | 5, _, _ =>
      have e : tz_mt ch (tz_fm 5) i = (false, i, []) := by
        show tz_mt ch [99, 108, 111, 115, 101] i = _
        rw [tz_mt_n (by decide) (by rw [h0]; decide)]
      exact ⟨by rw [e], by rw [e]; dsimp only; omega⟩
    | 6, _, _ =>
      have e : tz_mt ch (tz_fm 6) i = (false, i, []) := by
        show tz_mt ch [97, 100, 106, 111, 117, 114, 110] i = _
        rw [tz_mt_n (by decide) (by rw [h0]; decide)]
      exact ⟨by rw [e], by rw [e]; dsimp only; omega⟩
    | 7, _, _ =>
      have e : tz_mt ch (tz_fm 7) i = (false, i, []) := by
        show tz_mt ch [115, 112, 101, 97, 107, 32, 68] i = _
        rw [tz_mt_n (by decide) (by rw [h0]; decide)]
      exact ⟨by rw [e], by rw [e]; dsimp only; omega⟩
    | 8, _, _ =>
      have e : tz_mt ch (tz_fm 8) i = (false, i, []) := by
        show tz_mt ch [118, 111, 116, 101] i = _
        rw [tz_mt_n (by decide) (by rw [h0]; decide)]
      exact ⟨by rw [e], by rw [e]; dsimp only; omega⟩
    | 9, _, _ =>
      have e : tz_mt ch (tz_fm 9) i = (false, i, []) := by
        show tz_mt ch [115, 112, 105, 108, 108, 32, 68, 68, 32, 78] i = _
        rw [tz_mt_n (by decide) (by rw [h0]; decide)]
      exact ⟨by rw [e], by rw [e]; dsimp only; omega⟩
    | 10, _, _ =>
      have e : tz_mt ch (tz_fm 10) i = (false, i + 1, []) := by
        show tz_mt ch [109, 111, 112, 32, 68, 68] i = _
        rw [tz_mt_y (by decide) h0, tz_mt_n (by decide) n1o]
      exact ⟨by rw [e], by rw [e]; dsimp only; omega⟩
    | 11, _, _ =>
      have e : tz_mt ch (tz_fm 11) i = (false, i, []) := by
        show tz_mt ch [115, 117, 103, 97, 114, 32, 68, 32, 68] i = _
        rw [tz_mt_n (by decide) (by rw [h0]; decide)]
      exact ⟨by rw [e], by rw [e]; dsimp only; omega⟩
    | j + 12, hj, _ => omega
theorem tz_tr_am (h0 : ch (i) = 97) (h1 : ch (i + 1) = 109) : tz_rd ch i 12 0 i = tz_lf ch 3 [101, 110, 100, 32, 83] (i + 1 + 1) := by
  have e0 : tz_mt ch (tz_fm 3) i = tz_mt ch [101, 110, 100, 32, 83] (i + 1 + 1) := by
    show tz_mt ch [97, 109, 101, 110, 100, 32, 83] i = _
    rw [tz_mt_y (by decide) h0, tz_mt_y (by decide) h1]
  have g0 := tz_mt_ge (ch := ch) (F := [101, 110, 100, 32, 83]) (i := i + 1 + 1)
  rw [tz_rd_one (ch := ch) (i := i) (x := i + 1 + 1) (k0 := 3) (by decide) (by omega) (by rw [e0]; exact g0) (fun j hj hne => ?_)]
  · unfold tz_lf; rw [e0]; rfl
  · match j, hj, hne with
    | 0, _, _ =>
      have e : tz_mt ch (tz_fm 0) i = (false, i, []) := by
        show tz_mt ch [115, 112, 111, 111, 110, 32, 68, 32, 78] i = _
        rw [tz_mt_n (by decide) (by rw [h0]; decide)]
      exact ⟨by rw [e], by rw [e]; dsimp only; omega⟩
    | 1, _, _ =>
      have e : tz_mt ch (tz_fm 1) i = (false, i, []) := by
        show tz_mt ch [112, 114, 111, 112, 111, 115, 101, 32, 78] i = _
        rw [tz_mt_n (by decide) (by rw [h0]; decide)]
      exact ⟨by rw [e], by rw [e]; dsimp only; omega⟩
    | 2, _, _ =>
      have e : tz_mt ch (tz_fm 2) i = (false, i, []) := by
        show tz_mt ch [109, 111, 118, 101, 32, 78] i = _
        rw [tz_mt_n (by decide) (by rw [h0]; decide)]
      exact ⟨by rw [e], by rw [e]; dsimp only; omega⟩
    | 3, _, hne => exact absurd rfl hne
    | 4, _, _ =>
      have e : tz_mt ch (tz_fm 4) i = (false, i, []) := by
        show tz_mt ch [112, 111, 115, 116, 112, 111, 110, 101] i = _
        rw [tz_mt_n (by decide) (by rw [h0]; decide)]
      exact ⟨by rw [e], by rw [e]; dsimp only; omega⟩
    | 5, _, _ =>
      have e : tz_mt ch (tz_fm 5) i = (false, i, []) := by
        show tz_mt ch [99, 108, 111, 115, 101] i = _
        rw [tz_mt_n (by decide) (by rw [h0]; decide)]
      exact ⟨by rw [e], by rw [e]; dsimp only; omega⟩
    | 6, _, _ =>
      have e : tz_mt ch (tz_fm 6) i = (false, i + 1, []) := by
        show tz_mt ch [97, 100, 106, 111, 117, 114, 110] i = _
        rw [tz_mt_y (by decide) h0, tz_mt_n (by decide) (by rw [h1]; decide)]
      exact ⟨by rw [e], by rw [e]; dsimp only; omega⟩
    | 7, _, _ =>
      have e : tz_mt ch (tz_fm 7) i = (false, i, []) := by
        show tz_mt ch [115, 112, 101, 97, 107, 32, 68] i = _
        rw [tz_mt_n (by decide) (by rw [h0]; decide)]
      exact ⟨by rw [e], by rw [e]; dsimp only; omega⟩
    | 8, _, _ =>
      have e : tz_mt ch (tz_fm 8) i = (false, i, []) := by
        show tz_mt ch [118, 111, 116, 101] i = _
        rw [tz_mt_n (by decide) (by rw [h0]; decide)]
      exact ⟨by rw [e], by rw [e]; dsimp only; omega⟩
    | 9, _, _ =>
      have e : tz_mt ch (tz_fm 9) i = (false, i, []) := by
        show tz_mt ch [115, 112, 105, 108, 108, 32, 68, 68, 32, 78] i = _
        rw [tz_mt_n (by decide) (by rw [h0]; decide)]
      exact ⟨by rw [e], by rw [e]; dsimp only; omega⟩
    | 10, _, _ =>
      have e : tz_mt ch (tz_fm 10) i = (false, i, []) := by
        show tz_mt ch [109, 111, 112, 32, 68, 68] i = _
        rw [tz_mt_n (by decide) (by rw [h0]; decide)]
      exact ⟨by rw [e], by rw [e]; dsimp only; omega⟩
    | 11, _, _ =>
      have e : tz_mt ch (tz_fm 11) i = (false, i, []) := by
        show tz_mt ch [115, 117, 103, 97, 114, 32, 68, 32, 68] i = _
        rw [tz_mt_n (by decide) (by rw [h0]; decide)]
      exact ⟨by rw [e], by rw [e]; dsimp only; omega⟩
    | j + 12, hj, _ => omega
theorem tz_tr_ad (h0 : ch (i) = 97) (n1m : ch (i + 1) ≠ 109) : tz_rd ch i 12 0 i = tz_lf ch 6 [100, 106, 111, 117, 114, 110] (i + 1) := by
  have e0 : tz_mt ch (tz_fm 6) i = tz_mt ch [100, 106, 111, 117, 114, 110] (i + 1) := by
    show tz_mt ch [97, 100, 106, 111, 117, 114, 110] i = _
    rw [tz_mt_y (by decide) h0]
  have g0 := tz_mt_ge (ch := ch) (F := [100, 106, 111, 117, 114, 110]) (i := i + 1)
  rw [tz_rd_one (ch := ch) (i := i) (x := i + 1) (k0 := 6) (by decide) (by omega) (by rw [e0]; exact g0) (fun j hj hne => ?_)]
  · unfold tz_lf; rw [e0]; rfl
  · match j, hj, hne with
    | 0, _, _ =>
      have e : tz_mt ch (tz_fm 0) i = (false, i, []) := by
        show tz_mt ch [115, 112, 111, 111, 110, 32, 68, 32, 78] i = _
        rw [tz_mt_n (by decide) (by rw [h0]; decide)]
      exact ⟨by rw [e], by rw [e]; dsimp only; omega⟩
    | 1, _, _ =>
      have e : tz_mt ch (tz_fm 1) i = (false, i, []) := by
        show tz_mt ch [112, 114, 111, 112, 111, 115, 101, 32, 78] i = _
        rw [tz_mt_n (by decide) (by rw [h0]; decide)]
      exact ⟨by rw [e], by rw [e]; dsimp only; omega⟩
    | 2, _, _ =>
      have e : tz_mt ch (tz_fm 2) i = (false, i, []) := by
        show tz_mt ch [109, 111, 118, 101, 32, 78] i = _
        rw [tz_mt_n (by decide) (by rw [h0]; decide)]
      exact ⟨by rw [e], by rw [e]; dsimp only; omega⟩
    | 3, _, _ =>
      have e : tz_mt ch (tz_fm 3) i = (false, i + 1, []) := by
        show tz_mt ch [97, 109, 101, 110, 100, 32, 83] i = _
        rw [tz_mt_y (by decide) h0, tz_mt_n (by decide) n1m]
      exact ⟨by rw [e], by rw [e]; dsimp only; omega⟩
    | 4, _, _ =>
      have e : tz_mt ch (tz_fm 4) i = (false, i, []) := by
        show tz_mt ch [112, 111, 115, 116, 112, 111, 110, 101] i = _
        rw [tz_mt_n (by decide) (by rw [h0]; decide)]
      exact ⟨by rw [e], by rw [e]; dsimp only; omega⟩
    | 5, _, _ =>
      have e : tz_mt ch (tz_fm 5) i = (false, i, []) := by
        show tz_mt ch [99, 108, 111, 115, 101] i = _
        rw [tz_mt_n (by decide) (by rw [h0]; decide)]
      exact ⟨by rw [e], by rw [e]; dsimp only; omega⟩
    | 6, _, hne => exact absurd rfl hne
    | 7, _, _ =>
      have e : tz_mt ch (tz_fm 7) i = (false, i, []) := by
        show tz_mt ch [115, 112, 101, 97, 107, 32, 68] i = _
        rw [tz_mt_n (by decide) (by rw [h0]; decide)]
      exact ⟨by rw [e], by rw [e]; dsimp only; omega⟩
    | 8, _, _ =>
      have e : tz_mt ch (tz_fm 8) i = (false, i, []) := by
        show tz_mt ch [118, 111, 116, 101] i = _
        rw [tz_mt_n (by decide) (by rw [h0]; decide)]
      exact ⟨by rw [e], by rw [e]; dsimp only; omega⟩
    | 9, _, _ =>
      have e : tz_mt ch (tz_fm 9) i = (false, i, []) := by
        show tz_mt ch [115, 112, 105, 108, 108, 32, 68, 68, 32, 78] i = _
        rw [tz_mt_n (by decide) (by rw [h0]; decide)]
      exact ⟨by rw [e], by rw [e]; dsimp only; omega⟩
    | 10, _, _ =>
      have e : tz_mt ch (tz_fm 10) i = (false, i, []) := by
        show tz_mt ch [109, 111, 112, 32, 68, 68] i = _
        rw [tz_mt_n (by decide) (by rw [h0]; decide)]
      exact ⟨by rw [e], by rw [e]; dsimp only; omega⟩
    | 11, _, _ =>
      have e : tz_mt ch (tz_fm 11) i = (false, i, []) := by
        show tz_mt ch [115, 117, 103, 97, 114, 32, 68, 32, 68] i = _
        rw [tz_mt_n (by decide) (by rw [h0]; decide)]
      exact ⟨by rw [e], by rw [e]; dsimp only; omega⟩
    | j + 12, hj, _ => omega
theorem tz_tr_cl (h0 : ch (i) = 99) : tz_rd ch i 12 0 i = tz_lf ch 5 [108, 111, 115, 101] (i + 1) := by
  have e0 : tz_mt ch (tz_fm 5) i = tz_mt ch [108, 111, 115, 101] (i + 1) := by
    show tz_mt ch [99, 108, 111, 115, 101] i = _
    rw [tz_mt_y (by decide) h0]
  have g0 := tz_mt_ge (ch := ch) (F := [108, 111, 115, 101]) (i := i + 1)
  rw [tz_rd_one (ch := ch) (i := i) (x := i + 1) (k0 := 5) (by decide) (by omega) (by rw [e0]; exact g0) (fun j hj hne => ?_)]
  · unfold tz_lf; rw [e0]; rfl
  · match j, hj, hne with
    | 0, _, _ =>
      have e : tz_mt ch (tz_fm 0) i = (false, i, []) := by
        show tz_mt ch [115, 112, 111, 111, 110, 32, 68, 32, 78] i = _
        rw [tz_mt_n (by decide) (by rw [h0]; decide)]
      exact ⟨by rw [e], by rw [e]; dsimp only; omega⟩
    | 1, _, _ =>
      have e : tz_mt ch (tz_fm 1) i = (false, i, []) := by
        show tz_mt ch [112, 114, 111, 112, 111, 115, 101, 32, 78] i = _
        rw [tz_mt_n (by decide) (by rw [h0]; decide)]
      exact ⟨by rw [e], by rw [e]; dsimp only; omega⟩
    | 2, _, _ =>
      have e : tz_mt ch (tz_fm 2) i = (false, i, []) := by
        show tz_mt ch [109, 111, 118, 101, 32, 78] i = _
        rw [tz_mt_n (by decide) (by rw [h0]; decide)]
      exact ⟨by rw [e], by rw [e]; dsimp only; omega⟩
    | 3, _, _ =>
      have e : tz_mt ch (tz_fm 3) i = (false, i, []) := by
        show tz_mt ch [97, 109, 101, 110, 100, 32, 83] i = _
        rw [tz_mt_n (by decide) (by rw [h0]; decide)]
      exact ⟨by rw [e], by rw [e]; dsimp only; omega⟩
    | 4, _, _ =>
      have e : tz_mt ch (tz_fm 4) i = (false, i, []) := by
        show tz_mt ch [112, 111, 115, 116, 112, 111, 110, 101] i = _
        rw [tz_mt_n (by decide) (by rw [h0]; decide)]
      exact ⟨by rw [e], by rw [e]; dsimp only; omega⟩
    | 5, _, hne => exact absurd rfl hne
    | 6, _, _ =>
      have e : tz_mt ch (tz_fm 6) i = (false, i, []) := by
        show tz_mt ch [97, 100, 106, 111, 117, 114, 110] i = _
        rw [tz_mt_n (by decide) (by rw [h0]; decide)]
      exact ⟨by rw [e], by rw [e]; dsimp only; omega⟩
    | 7, _, _ =>
      have e : tz_mt ch (tz_fm 7) i = (false, i, []) := by
        show tz_mt ch [115, 112, 101, 97, 107, 32, 68] i = _
        rw [tz_mt_n (by decide) (by rw [h0]; decide)]
      exact ⟨by rw [e], by rw [e]; dsimp only; omega⟩
    | 8, _, _ =>
      have e : tz_mt ch (tz_fm 8) i = (false, i, []) := by
        show tz_mt ch [118, 111, 116, 101] i = _
        rw [tz_mt_n (by decide) (by rw [h0]; decide)]
      exact ⟨by rw [e], by rw [e]; dsimp only; omega⟩
    | 9, _, _ =>
      have e : tz_mt ch (tz_fm 9) i = (false, i, []) := by
        show tz_mt ch [115, 112, 105, 108, 108, 32, 68, 68, 32, 78] i = _
        rw [tz_mt_n (by decide) (by rw [h0]; decide)]
      exact ⟨by rw [e], by rw [e]; dsimp only; omega⟩
    | 10, _, _ =>
      have e : tz_mt ch (tz_fm 10) i = (false, i, []) := by
        show tz_mt ch [109, 111, 112, 32, 68, 68] i = _
        rw [tz_mt_n (by decide) (by rw [h0]; decide)]
      exact ⟨by rw [e], by rw [e]; dsimp only; omega⟩
    | 11, _, _ =>
      have e : tz_mt ch (tz_fm 11) i = (false, i, []) := by
        show tz_mt ch [115, 117, 103, 97, 114, 32, 68, 32, 68] i = _
        rw [tz_mt_n (by decide) (by rw [h0]; decide)]
      exact ⟨by rw [e], by rw [e]; dsimp only; omega⟩
    | j + 12, hj, _ => omega
theorem tz_tr_v (n0s : ch (i) ≠ 115) (n0p : ch (i) ≠ 112) (n0m : ch (i) ≠ 109) (n0a : ch (i) ≠ 97) (n0c : ch (i) ≠ 99) : tz_rd ch i 12 0 i = tz_lf ch 8 [118, 111, 116, 101] (i) := by
  have e0 : tz_mt ch (tz_fm 8) i = tz_mt ch [118, 111, 116, 101] (i) := by
    show tz_mt ch [118, 111, 116, 101] i = _
    rfl
  have g0 := tz_mt_ge (ch := ch) (F := [118, 111, 116, 101]) (i := i)
  rw [tz_rd_one (ch := ch) (i := i) (x := i) (k0 := 8) (by decide) (by omega) (by rw [e0]; exact g0) (fun j hj hne => ?_)]
  · unfold tz_lf; rw [e0]; rfl
  · match j, hj, hne with
    | 0, _, _ =>
      have e : tz_mt ch (tz_fm 0) i = (false, i, []) := by
        show tz_mt ch [115, 112, 111, 111, 110, 32, 68, 32, 78] i = _
        rw [tz_mt_n (by decide) n0s]
      exact ⟨by rw [e], by rw [e]; dsimp only; omega⟩
    | 1, _, _ =>
      have e : tz_mt ch (tz_fm 1) i = (false, i, []) := by
        show tz_mt ch [112, 114, 111, 112, 111, 115, 101, 32, 78] i = _
        rw [tz_mt_n (by decide) n0p]
      exact ⟨by rw [e], by rw [e]; dsimp only; omega⟩
    | 2, _, _ =>
      have e : tz_mt ch (tz_fm 2) i = (false, i, []) := by
        show tz_mt ch [109, 111, 118, 101, 32, 78] i = _
        rw [tz_mt_n (by decide) n0m]
      exact ⟨by rw [e], by rw [e]; dsimp only; omega⟩
    | 3, _, _ =>
      have e : tz_mt ch (tz_fm 3) i = (false, i, []) := by
        show tz_mt ch [97, 109, 101, 110, 100, 32, 83] i = _
        rw [tz_mt_n (by decide) n0a]
      exact ⟨by rw [e], by rw [e]; dsimp only; omega⟩
    | 4, _, _ =>
      have e : tz_mt ch (tz_fm 4) i = (false, i, []) := by
        show tz_mt ch [112, 111, 115, 116, 112, 111, 110, 101] i = _
        rw [tz_mt_n (by decide) n0p]
      exact ⟨by rw [e], by rw [e]; dsimp only; omega⟩
    | 5, _, _ =>
      have e : tz_mt ch (tz_fm 5) i = (false, i, []) := by
        show tz_mt ch [99, 108, 111, 115, 101] i = _
        rw [tz_mt_n (by decide) n0c]
      exact ⟨by rw [e], by rw [e]; dsimp only; omega⟩
    | 6, _, _ =>
      have e : tz_mt ch (tz_fm 6) i = (false, i, []) := by
        show tz_mt ch [97, 100, 106, 111, 117, 114, 110] i = _
        rw [tz_mt_n (by decide) n0a]
      exact ⟨by rw [e], by rw [e]; dsimp only; omega⟩
    | 7, _, _ =>
      have e : tz_mt ch (tz_fm 7) i = (false, i, []) := by
        show tz_mt ch [115, 112, 101, 97, 107, 32, 68] i = _
        rw [tz_mt_n (by decide) n0s]
      exact ⟨by rw [e], by rw [e]; dsimp only; omega⟩
    | 8, _, hne => exact absurd rfl hne
    | 9, _, _ =>
      have e : tz_mt ch (tz_fm 9) i = (false, i, []) := by
        show tz_mt ch [115, 112, 105, 108, 108, 32, 68, 68, 32, 78] i = _
        rw [tz_mt_n (by decide) n0s]
      exact ⟨by rw [e], by rw [e]; dsimp only; omega⟩
    | 10, _, _ =>
      have e : tz_mt ch (tz_fm 10) i = (false, i, []) := by
        show tz_mt ch [109, 111, 112, 32, 68, 68] i = _
        rw [tz_mt_n (by decide) n0m]
      exact ⟨by rw [e], by rw [e]; dsimp only; omega⟩
    | 11, _, _ =>
      have e : tz_mt ch (tz_fm 11) i = (false, i, []) := by
        show tz_mt ch [115, 117, 103, 97, 114, 32, 68, 32, 68] i = _
        rw [tz_mt_n (by decide) n0s]
      exact ⟨by rw [e], by rw [e]; dsimp only; omega⟩
    | j + 12, hj, _ => omega
end TZW
