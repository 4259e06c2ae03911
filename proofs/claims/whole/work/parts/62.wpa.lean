/-! ===== what holds of a row, in parts; what the commands keep of it ===== -/
def tz_W1 (B : Int) (w : Int → Int) : Prop := (0 ≤ w 0 ∧ w 0 ≤ 8) ∧ (0 ≤ w 9 ∧ w 9 ≤ 8 * B) ∧ (0 ≤ w 10 ∧ w 10 ≤ B) ∧ (∀ s : Int, 0 ≤ s → s < w 0 → (1 ≤ tz_a w s 0 ∧ tz_a w s 0 ≤ 9) ∧ (0 ≤ tz_a w s 1 ∧ tz_a w s 1 ≤ 99) ∧ (0 ≤ tz_a w s 2 ∧ tz_a w s 2 ≤ B) ∧ 0 ≤ tz_a w s 3 ∧ tz_a w s 3 ≤ 2) ∧ (∀ s : Int, w 0 ≤ s → s < 8 → tz_a w s 3 = 0) ∧ tz_sug w = 5 * w 0 + w 9 - w 10
def tz_W2 (B : Int) (w : Int → Int) : Prop := (0 ≤ w 1 ∧ w 1 ≤ 6) ∧ (0 ≤ w 2 ∧ w 2 ≤ B) ∧ (∀ i : Int, 0 ≤ i → i < w 1 → (0 ≤ tz_pi w i ∧ tz_pi w i < w 2) ∧ 0 ≤ tz_pp w i ∧ tz_pp w i ≤ 99) ∧ (∀ i j : Int, 0 ≤ i → i < j → j < w 1 → tz_pi w i ≠ tz_pi w j)
def tz_W3 (w : Int → Int) : Prop := (0 ≤ w 3 ∧ w 3 ≤ 5) ∧ (0 ≤ w 4 ∧ w 4 ≤ 1) ∧ (∀ k : Int, 0 ≤ k → k < w 3 → 0 ≤ tz_mo w k ∧ tz_mo w k ≤ 4) ∧ (∀ j k : Int, 0 ≤ j → j < k → k < w 3 → tz_mo w j < tz_mo w k) ∧ (0 < w 3 → tz_mo w 0 = 0 ∨ tz_mo w 0 = 4) ∧ (-20 ≤ w 61 ∧ w 61 ≤ 20) ∧ (w 3 = 0 → w 4 = 0)
def tz_WM (w : Int → Int) : Prop := 0 < w 3 → tz_mo w 0 = 0 → ∃ i : Int, 0 ≤ i ∧ i < w 1 ∧ tz_pi w i = w 60
def tz_W4 (w : Int → Int) : Prop := ∀ k : Int, 0 ≤ k → k < 64 → 0 ≤ tz_we w k ∧ tz_we w k ≤ 1
def tz_W5 (B : Int) (w : Int → Int) : Prop := (0 ≤ w 5 ∧ w 5 ≤ B) ∧ (0 ≤ w 6 ∧ w 6 ≤ B) ∧ (0 ≤ w 7 ∧ w 7 ≤ B) ∧ (0 ≤ w 8 ∧ w 8 ≤ B)
section TZW
variable {B B2 : Int} {w w2 : Int → Int}
theorem tz_W_of (h1 : tz_W1 B w) (h2 : tz_W2 B w) (h3 : tz_W3 w) (h6 : tz_WM w) (h4 : tz_W4 w) (h5 : tz_W5 B w) : tz_W B w := by
  obtain ⟨a1, a2, a3, a4, a5, a6⟩ := h1
  obtain ⟨b1, b2, b3, b4⟩ := h2
  obtain ⟨c1, c2, c3, c4, c5, c6, c7⟩ := h3
  obtain ⟨d1, d2, d3, d4⟩ := h5
  exact ⟨a1, b1, b2, c1, c2, d1, d2, d3, d4, a2, a3, a4, a5, b3, b4, c3, c4, c5, h6, c6, c7, h4, a6⟩
theorem tz_W_1 (h : tz_W B w) : tz_W1 B w := by
  obtain ⟨a1, b1, b2, c1, c2, d1, d2, d3, d4, a2, a3, a4, a5, b3, b4, c3, c4, c5, h6, c6, c7, h4, a6⟩ := h
  exact ⟨a1, a2, a3, a4, a5, a6⟩
theorem tz_W_2 (h : tz_W B w) : tz_W2 B w := by
  obtain ⟨a1, b1, b2, c1, c2, d1, d2, d3, d4, a2, a3, a4, a5, b3, b4, c3, c4, c5, h6, c6, c7, h4, a6⟩ := h
  exact ⟨b1, b2, b3, b4⟩
theorem tz_W_3 (h : tz_W B w) : tz_W3 w := by
  obtain ⟨a1, b1, b2, c1, c2, d1, d2, d3, d4, a2, a3, a4, a5, b3, b4, c3, c4, c5, h6, c6, c7, h4, a6⟩ := h
  exact ⟨c1, c2, c3, c4, c5, c6, c7⟩
theorem tz_W_M (h : tz_W B w) : tz_WM w := by
  obtain ⟨a1, b1, b2, c1, c2, d1, d2, d3, d4, a2, a3, a4, a5, b3, b4, c3, c4, c5, h6, c6, c7, h4, a6⟩ := h
  exact h6
theorem tz_W_4 (h : tz_W B w) : tz_W4 w := by
  obtain ⟨a1, b1, b2, c1, c2, d1, d2, d3, d4, a2, a3, a4, a5, b3, b4, c3, c4, c5, h6, c6, c7, h4, a6⟩ := h
  exact h4
theorem tz_W_5 (h : tz_W B w) : tz_W5 B w := by
  obtain ⟨a1, b1, b2, c1, c2, d1, d2, d3, d4, a2, a3, a4, a5, b3, b4, c3, c4, c5, h6, c6, c7, h4, a6⟩ := h
  exact ⟨d1, d2, d3, d4⟩
theorem tz_W1_c (h : tz_W1 B w) (hB : B ≤ B2) (hr : ∀ j : Int, j = 0 ∨ j = 9 ∨ j = 10 ∨ (11 ≤ j ∧ j < 43) → w2 j = w j) : tz_W1 B2 w2 := by
  obtain ⟨a1, a2, a3, a4, a5, a6⟩ := h
  have e0 := hr 0 (by omega)
  have ea : ∀ s k : Int, 0 ≤ s → s < 8 → 0 ≤ k → k ≤ 3 → tz_a w2 s k = tz_a w s k := fun s k h1 h2 h3 h4 => hr _ (by omega)
  unfold tz_W1
  rw [e0, hr 9 (by omega), hr 10 (by omega)]
  refine ⟨a1, ⟨a2.1, by omega⟩, ⟨a3.1, by omega⟩, fun s h1 h2 => ?_, fun s h1 h2 => ?_, ?_⟩
  · have h3 := a4 s h1 h2
    rw [ea s 0 h1 (by omega) (by omega) (by omega), ea s 1 h1 (by omega) (by omega) (by omega), ea s 2 h1 (by omega) (by omega) (by omega), ea s 3 h1 (by omega) (by omega) (by omega)]
    omega
  · rw [ea s 3 (by omega) (by omega) (by omega) (by omega)]; exact a5 s h1 h2
  · rw [← a6]
    unfold tz_sug
    rw [e0]
    exact tz_sum_eq (fun i h1 h2 => ea i 2 h1 (by omega) (by omega) (by omega))
theorem tz_W2_c (h : tz_W2 B w) (hB : B ≤ B2) (hr : ∀ j : Int, j = 1 ∨ j = 2 ∨ (43 ≤ j ∧ j < 55) → w2 j = w j) : tz_W2 B2 w2 := by
  obtain ⟨b1, b2, b3, b4⟩ := h
  have ei : ∀ i : Int, 0 ≤ i → i < w 1 → tz_pi w2 i = tz_pi w i := fun i h1 h2 => hr _ (by omega)
  have ep : ∀ i : Int, 0 ≤ i → i < w 1 → tz_pp w2 i = tz_pp w i := fun i h1 h2 => hr _ (by omega)
  unfold tz_W2
  rw [hr 1 (by omega), hr 2 (by omega)]
  refine ⟨b1, ⟨b2.1, by omega⟩, fun i h1 h2 => ?_, fun i j h1 h2 h3 => ?_⟩
  · rw [ei i h1 h2, ep i h1 h2]; exact b3 i h1 h2
  · rw [ei i h1 (by omega), ei j (by omega) h3]; exact b4 i j h1 h2 h3
theorem tz_W3_c (h : tz_W3 w) (hr : ∀ j : Int, j = 3 ∨ j = 4 ∨ j = 61 ∨ (55 ≤ j ∧ j < 60) → w2 j = w j) : tz_W3 w2 := by
  obtain ⟨c1, c2, c3, c4, c5, c6, c7⟩ := h
  have em : ∀ k : Int, 0 ≤ k → k < 5 → tz_mo w2 k = tz_mo w k := fun k h1 h2 => hr _ (by omega)
  unfold tz_W3
  rw [hr 3 (by omega), hr 4 (by omega), hr 61 (by omega), em 0 (by omega) (by omega)]
  refine ⟨c1, c2, fun k h1 h2 => ?_, fun j k h1 h2 h3 => ?_, c5, c6, c7⟩
  · rw [em k h1 (by omega)]; exact c3 k h1 h2
  · rw [em j h1 (by omega), em k (by omega) (by omega)]; exact c4 j k h1 h2 h3
theorem tz_WM_c (h : tz_WM w) (h1 : w 1 ≤ 6) (hr : ∀ j : Int, j = 1 ∨ j = 3 ∨ j = 55 ∨ j = 60 ∨ (43 ≤ j ∧ j < 55) → w2 j = w j) : tz_WM w2 := by
  have em : tz_mo w2 0 = tz_mo w 0 := hr _ (by omega)
  unfold tz_WM
  rw [hr 1 (by omega), hr 3 (by omega), hr 60 (by omega), em]
  intro h2 h3
  obtain ⟨i, i1, i2, i3⟩ := h h2 h3
  exact ⟨i, i1, i2, (hr (43 + 2 * i) (by omega)).trans i3⟩
theorem tz_W4_c (h : tz_W4 w) (hr : ∀ j : Int, 82 ≤ j → j < 146 → w2 j = w j) : tz_W4 w2 := fun k h1 h2 => by
  rw [show tz_we w2 k = tz_we w k from hr _ (by omega) (by omega)]; exact h k h1 h2
theorem tz_W5_c (h : tz_W5 B w) (hB : B ≤ B2) (hr : ∀ j : Int, 5 ≤ j ∧ j ≤ 8 → w2 j = w j) : tz_W5 B2 w2 := by
  obtain ⟨d1, d2, d3, d4⟩ := h
  unfold tz_W5
  rw [hr 5 (by omega), hr 6 (by omega), hr 7 (by omega), hr 8 (by omega)]
  omega
theorem tz_W_mono (h : tz_W B w) (hB : B ≤ B2) : tz_W B2 w := tz_W_of (tz_W1_c (tz_W_1 h) hB (fun _ _ => rfl)) (tz_W2_c (tz_W_2 h) hB (fun _ _ => rfl)) (tz_W_3 h) (tz_W_M h) (tz_W_4 h) (tz_W5_c (tz_W_5 h) hB (fun _ _ => rfl))
theorem tz_W_c (h : tz_W B w) (hr : tz_E w w2) : tz_W B w2 := tz_W_of (tz_W1_c (tz_W_1 h) (Int.le_refl _) (fun j h1 => hr j (by omega) (by omega))) (tz_W2_c (tz_W_2 h) (Int.le_refl _) (fun j h1 => hr j (by omega) (by omega))) (tz_W3_c (tz_W_3 h) (fun j h1 => hr j (by omega) (by omega))) (tz_WM_c (tz_W_M h) (tz_W_2 h).1.2 (fun j h1 => hr j (by omega) (by omega))) (tz_W4_c (tz_W_4 h) (fun j h1 h2 => hr j (by omega) (by omega))) (tz_W5_c (tz_W_5 h) (Int.le_refl _) (fun j h1 => hr j (by omega) (by omega)))
/-- addSpoon keeps it -/
theorem tz_k_spoon {p1 p2 : Int} (h : tz_W B w) (hB : 0 ≤ B) (h0 : w 0 < 8) (h1 : 1 ≤ p1 ∧ p1 ≤ 9) (h2 : 0 ≤ p2 ∧ p2 ≤ 99) : tz_W (B + 9) (to_spoon w p1 p2) := by
  have g := h.1
  have o : ∀ j : Int, ¬ (j = 0 ∨ (11 + 4 * w 0 ≤ j ∧ j ≤ 11 + 4 * w 0 + 2)) → to_spoon w p1 p2 j = w j := fun j h3 => to_spoon_o h3
  refine tz_W_of ?_ (tz_W2_c (tz_W_2 h) (by omega) (fun j h3 => o j (by omega))) (tz_W3_c (tz_W_3 h) (fun j h3 => o j (by omega))) (tz_WM_c (tz_W_M h) (tz_W_2 h).1.2 (fun j h3 => o j (by omega))) (tz_W4_c (tz_W_4 h) (fun j h3 h4 => o j (by omega))) (tz_W5_c (tz_W_5 h) (by omega) (fun j h3 => o j (by omega)))
  obtain ⟨a1, a2, a3, a4, a5, a6⟩ := tz_W_1 h
  have q0 : to_spoon w p1 p2 0 = w 0 + 1 := to_spoon_0 g.1
  have r0 : tz_a (to_spoon w p1 p2) (w 0) 0 = p1 := by unfold tz_a to_spoon; rw [tz_fu_n (by omega), tz_fu_n (by omega), tz_fu_e]
  have r1 : tz_a (to_spoon w p1 p2) (w 0) 1 = p2 := by unfold tz_a to_spoon; rw [tz_fu_n (by omega), tz_fu_e]
  have r2 : tz_a (to_spoon w p1 p2) (w 0) 2 = 5 := by unfold tz_a to_spoon; rw [tz_fu_e]
  have r3 : tz_a (to_spoon w p1 p2) (w 0) 3 = 0 := by unfold tz_a; rw [o _ (by omega)]; exact a5 (w 0) (Int.le_refl _) h0
  have ro : ∀ s k : Int, s ≠ w 0 → 0 ≤ s → 0 ≤ k → k ≤ 3 → tz_a (to_spoon w p1 p2) s k = tz_a w s k := fun s k h3 h4 h5 h6 => o _ (by omega)
  unfold tz_W1
  rw [q0, o 9 (by omega), o 10 (by omega)]
  refine ⟨by omega, by omega, by omega, fun s h3 h4 => ?_, fun s h3 h4 => ?_, ?_⟩
  · by_cases c1 : s = w 0
    · subst c1; rw [r0, r1, r2, r3]; omega
    · have h5 := a4 s h3 (by omega)
      rw [ro s 0 c1 h3 (by omega) (by omega), ro s 1 c1 h3 (by omega) (by omega), ro s 2 c1 h3 (by omega) (by omega), ro s 3 c1 h3 (by omega) (by omega)]; omega
  · rw [ro s 3 (by omega) (by omega) (by omega) (by omega)]; exact a5 s (by omega) h4
  · unfold tz_sug
    rw [q0, show (w 0 + 1).toNat = (w 0).toNat + 1 by omega]
    show tz_sum (fun s => tz_a (to_spoon w p1 p2) s 2) (w 0).toNat + tz_a (to_spoon w p1 p2) ((w 0).toNat : Int) 2 = _
    rw [Int.toNat_of_nonneg g.1, r2, tz_sum_eq (g := fun s => tz_a w s 2) (fun i h3 h4 => ro i 2 (by omega) h3 (by omega) (by omega))]
    have a7 : tz_sum (fun s => tz_a w s 2) (w 0).toNat = 5 * w 0 + w 9 - w 10 := a6
    rw [a7]; omega
theorem tz_k_speak {p : Int} (h : tz_W B w) (h1 : 0 ≤ p) (h2 : p < w 0) (h3 : tz_a w p 3 < 2) (h4 : tz_a w p 2 ≠ 0) : tz_W (B + 9) (to_speak w p) := by
  have g := h.1
  have o : ∀ j : Int, ¬ (j = 10 ∨ j = 11 + 4 * p + 2 ∨ j = 11 + 4 * p + 3) → to_speak w p j = w j := fun j h3 => to_speak_o h3
  refine tz_W_of ?_ (tz_W2_c (tz_W_2 h) (by omega) (fun j h3 => o j (by omega))) (tz_W3_c (tz_W_3 h) (fun j h3 => o j (by omega))) (tz_WM_c (tz_W_M h) (tz_W_2 h).1.2 (fun j h3 => o j (by omega))) (tz_W4_c (tz_W_4 h) (fun j h3 h4 => o j (by omega))) (tz_W5_c (tz_W_5 h) (by omega) (fun j h3 => o j (by omega)))
  obtain ⟨a1, a2, a3, a4, a5, a6⟩ := tz_W_1 h
  have b4 := a4 p h1 h2
  have r2 : tz_a (to_speak w p) p 2 = tz_a w p 2 - 1 := by conv => lhs; unfold tz_a to_speak
                                                           rw [tz_fu_n (by omega), tz_fu_n (by omega), tz_fu_e]
  have r3 : tz_a (to_speak w p) p 3 = tz_a w p 3 + 1 := by conv => lhs; unfold tz_a to_speak
                                                           rw [tz_fu_n (by omega), tz_fu_e]
  have r10 : to_speak w p 10 = w 10 + 1 := by unfold to_speak; rw [tz_fu_e]
  have ro : ∀ s k : Int, ¬ (s = p ∧ 2 ≤ k) → 0 ≤ s → 0 ≤ k → k ≤ 3 → tz_a (to_speak w p) s k = tz_a w s k := fun s k h3 h4 h5 h6 => o _ (by omega)
  have sm : tz_sum (fun s => tz_a (to_speak w p) s 2) (w 0).toNat = tz_sum (ts_fu (fun s => tz_a w s 2) p (tz_a w p 2 - 1)) (w 0).toNat := tz_sum_eq (fun i h5 h6 => by
    by_cases c1 : i = p
    · subst c1; rw [tz_fu_e]; exact r2
    · rw [tz_fu_n c1]; exact ro i 2 (by omega) h5 (by omega) (by omega))
  rw [tz_sum_upd h1 (by omega)] at sm
  have a7 : tz_sum (fun s => tz_a w s 2) (w 0).toNat = 5 * w 0 + w 9 - w 10 := a6
  unfold tz_W1
  rw [o 0 (by omega), o 9 (by omega), r10]
  refine ⟨a1, by omega, by omega, fun s h5 h6 => ?_, fun s h5 h6 => ?_, ?_⟩
  · have h7 := a4 s h5 h6
    rw [ro s 0 (by omega) h5 (by omega) (by omega), ro s 1 (by omega) h5 (by omega) (by omega)]
    by_cases c1 : s = p
    · subst c1; rw [r2, r3]; omega
    · rw [ro s 2 (by omega) h5 (by omega) (by omega), ro s 3 (by omega) h5 (by omega) (by omega)]; omega
  · rw [ro s 3 (by omega) (by omega) (by omega) (by omega)]; exact a5 s h5 h6
  · unfold tz_sug
    rw [o 0 (by omega), sm, a7]
    show 5 * w 0 + w 9 - w 10 - tz_a w p 2 + (tz_a w p 2 - 1) = _
    omega
theorem tz_k_sugar {p n : Int} (h : tz_W B w) (h1 : 0 ≤ p) (h2 : p < w 0) (h3 : 1 ≤ n ∧ n ≤ 9) : tz_W (B + 9) (to_sugar w p n) := by
  have g := h.1
  have o : ∀ j : Int, ¬ (j = 9 ∨ j = 11 + 4 * p + 2) → to_sugar w p n j = w j := fun j h3 => to_sugar_o h3
  refine tz_W_of ?_ (tz_W2_c (tz_W_2 h) (by omega) (fun j h3 => o j (by omega))) (tz_W3_c (tz_W_3 h) (fun j h3 => o j (by omega))) (tz_WM_c (tz_W_M h) (tz_W_2 h).1.2 (fun j h3 => o j (by omega))) (tz_W4_c (tz_W_4 h) (fun j h3 h4 => o j (by omega))) (tz_W5_c (tz_W_5 h) (by omega) (fun j h3 => o j (by omega)))
  obtain ⟨a1, a2, a3, a4, a5, a6⟩ := tz_W_1 h
  have b4 := a4 p h1 h2
  have r2 : tz_a (to_sugar w p n) p 2 = tz_a w p 2 + n := by conv => lhs; unfold tz_a to_sugar
                                                             rw [tz_fu_n (by omega), tz_fu_e]
  have r9 : to_sugar w p n 9 = w 9 + n := by unfold to_sugar; rw [tz_fu_e]
  have ro : ∀ s k : Int, ¬ (s = p ∧ k = 2) → 0 ≤ s → 0 ≤ k → k ≤ 3 → tz_a (to_sugar w p n) s k = tz_a w s k := fun s k h3 h4 h5 h6 => o _ (by omega)
  have sm : tz_sum (fun s => tz_a (to_sugar w p n) s 2) (w 0).toNat = tz_sum (ts_fu (fun s => tz_a w s 2) p (tz_a w p 2 + n)) (w 0).toNat := tz_sum_eq (fun i h5 h6 => by
    by_cases c1 : i = p
    · subst c1; rw [tz_fu_e]; exact r2
    · rw [tz_fu_n c1]; exact ro i 2 (by omega) h5 (by omega) (by omega))
  rw [tz_sum_upd h1 (by omega)] at sm
  have a7 : tz_sum (fun s => tz_a w s 2) (w 0).toNat = 5 * w 0 + w 9 - w 10 := a6
  unfold tz_W1
  rw [o 0 (by omega), o 10 (by omega), r9]
  refine ⟨a1, by omega, by omega, fun s h5 h6 => ?_, fun s h5 h6 => ?_, ?_⟩
  · have h7 := a4 s h5 h6
    rw [ro s 0 (by omega) h5 (by omega) (by omega), ro s 1 (by omega) h5 (by omega) (by omega), ro s 3 (by omega) h5 (by omega) (by omega)]
    by_cases c1 : s = p
    · subst c1; rw [r2]; omega
    · rw [ro s 2 (by omega) h5 (by omega) (by omega)]; omega
  · rw [ro s 3 (by omega) (by omega) (by omega) (by omega)]; exact a5 s h5 h6
  · unfold tz_sug
    rw [o 0 (by omega), sm, a7]
    show 5 * w 0 + w 9 - w 10 - tz_a w p 2 + (tz_a w p 2 + n) = _
    omega
theorem to_prop_o {p j : Int} (h0 : 0 ≤ w 1) (h : ¬ (j = 1 ∨ j = 2 ∨ j = 43 + 2 * w 1 ∨ j = 43 + 2 * w 1 + 1)) : to_prop w p j = w j := by
  have q1 : ts_fu w 2 (w 2 + 1) 1 = w 1 := tz_fu_n (by omega)
  unfold to_prop to_lists; rw [tz_fu_n (by omega), q1, tz_fu_n (by omega), tz_fu_n (by omega), tz_fu_n (by omega)]
theorem tz_k_prop {p : Int} (h : tz_W B w) (h1 : w 1 < 6) (h2 : 0 ≤ p ∧ p ≤ 99) : tz_W (B + 9) (to_prop w p) := by
  obtain ⟨b1, b2, b3, b4⟩ := tz_W_2 h
  have o : ∀ j : Int, ¬ (j = 1 ∨ j = 2 ∨ j = 43 + 2 * w 1 ∨ j = 43 + 2 * w 1 + 1) → to_prop w p j = w j := fun j h3 => to_prop_o b1.1 h3
  have q1 : ts_fu w 2 (w 2 + 1) 1 = w 1 := tz_fu_n (by omega)
  have r1 : to_prop w p 1 = w 1 + 1 := by unfold to_prop to_lists; rw [tz_fu_e, q1]
  have r2 : to_prop w p 2 = w 2 + 1 := by unfold to_prop to_lists; rw [tz_fu_n (by omega), q1, tz_fu_n (by omega), tz_fu_n (by omega), tz_fu_e]
  have ri : tz_pi (to_prop w p) (w 1) = w 2 := by unfold tz_pi to_prop to_lists; rw [tz_fu_n (by omega), q1, tz_fu_n (by omega), tz_fu_e]
  have rp : tz_pp (to_prop w p) (w 1) = p := by unfold tz_pp to_prop to_lists; rw [tz_fu_n (by omega), q1, tz_fu_e]
  have oi : ∀ i : Int, 0 ≤ i → i < w 1 → tz_pi (to_prop w p) i = tz_pi w i := fun i h3 h4 => o _ (by omega)
  have op : ∀ i : Int, 0 ≤ i → i < w 1 → tz_pp (to_prop w p) i = tz_pp w i := fun i h3 h4 => o _ (by omega)
  refine tz_W_of (tz_W1_c (tz_W_1 h) (by omega) (fun j h3 => o j (by omega))) ?_ (tz_W3_c (tz_W_3 h) (fun j h3 => o j (by omega))) ?_ (tz_W4_c (tz_W_4 h) (fun j h3 h4 => o j (by omega))) (tz_W5_c (tz_W_5 h) (by omega) (fun j h3 => o j (by omega)))
  · unfold tz_W2
    rw [r1, r2]
    refine ⟨by omega, by omega, fun i h3 h4 => ?_, fun i j h3 h4 h5 => ?_⟩
    · by_cases c1 : i = w 1
      · subst c1; rw [ri, rp]; omega
      · rw [oi i h3 (by omega), op i h3 (by omega)]
        have := b3 i h3 (by omega); omega
    · rw [oi i h3 (by omega)]
      by_cases c1 : j = w 1
      · subst c1; rw [ri]
        have := b3 i h3 (by omega); omega
      · rw [oi j (by omega) (by omega)]; exact b4 i j h3 h4 (by omega)
  · have hm := tz_W_M h
    have em : tz_mo (to_prop w p) 0 = tz_mo w 0 := o _ (by omega)
    unfold tz_WM
    rw [r1, o 3 (by omega), o 60 (by omega), em]
    intro h3 h4
    obtain ⟨i, i1, i2, i3⟩ := hm h3 h4
    exact ⟨i, i1, by omega, (oi i i1 i2).trans i3⟩
end TZW
