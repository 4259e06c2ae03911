/-! ===== the class's writers: a State that stands for w stands for the new row ===== -/
def tz_P1 (b : Nat) (M : ts_M) (w : Int → Int) : Prop := M.1 (b + 1) 4 = w 0 ∧ (∀ s : Int, 0 ≤ s → s < w 0 → M.1 (b + 2) s = tz_a w s 0 ∧ M.1 (b + 3) s = tz_a w s 1 ∧ M.1 (b + 4) s = tz_a w s 2 ∧ M.1 (b + 5) s = tz_a w s 3) ∧ M.1 (b + 1) 5 + M.1 (b + 1) 6 = w 9 ∧ M.1 (b + 1) 7 = w 10
def tz_P2 (b : Nat) (M : ts_M) (w : Int → Int) : Prop := M.1 (b + 6) 2 = w 1 ∧ M.1 (b + 6) 3 = w 2 ∧ (∀ i : Int, 0 ≤ i → i < w 1 → M.1 (b + 7) i = tz_pi w i ∧ M.1 (b + 8) i = tz_pp w i)
def tz_P3 (b : Nat) (M : ts_M) (w : Int → Int) : Prop := M.1 (b + 9) 1 = w 3 ∧ (0 < w 3 → tz_mo w 0 = 0 → M.1 (b + 9) 2 = w 60) ∧ (∀ k : Int, 0 ≤ k → k < w 3 → tz_mo w k = 1 → M.1 (b + 9) 3 = w 61) ∧ M.1 (b + 9) 4 = w 4 ∧ (∀ k : Int, 0 ≤ k → k < w 3 → M.1 (b + 10) k = tz_mo w k)
def tz_P4 (b : Nat) (M : ts_M) (w : Int → Int) : Prop := ∀ k : Nat, k < 64 → tz_bit (M.2.1 (b + 11) 0) k = decide (tz_we w (k : Int) = 1)
def tz_P5 (b : Nat) (M : ts_M) (w : Int → Int) : Prop := (∀ k : Int, 0 ≤ k → k < 20 → M.1 (b + 13) k = tz_mi w k) ∧ M.1 b 5 = w 6 ∧ M.1 b 6 = w 5 ∧ M.1 b 7 = w 7 ∧ M.1 b 8 = w 8
/-- the frame: nothing but the State at b has changed -/
def tz_F (b : Nat) (M M' : ts_M) : Prop := (∀ a : Nat, ¬ (b ≤ a ∧ a < b + 14) → M'.1 a = M.1 a ∧ M'.2.1 a = M.2.1 a) ∧ M'.2.2 = M.2.2
section TZD
variable {p p1 p2 p3 lo up B : Int} {Q : Int → ts_M → Prop} {Qv : ts_M → Prop} {M M' M'' : ts_M} {b : Nat} {w w2 : Int → Int}
theorem tz_S_of (h1 : tz_P1 b M w) (h2 : tz_P2 b M w) (h3 : tz_P3 b M w) (h4 : tz_P4 b M w) (h5 : tz_P5 b M w) : tz_S b M w := by
  obtain ⟨a1, a2, a3, a4⟩ := h1
  obtain ⟨b1, b2, b3⟩ := h2
  obtain ⟨c1, c2, c3, c4, c5⟩ := h3
  obtain ⟨d1, d2, d3, d4, d5⟩ := h5
  exact ⟨a1, a2, a3, a4, b1, b2, b3, c1, c2, c3, c4, c5, h4, d1, d2, d3, d4, d5⟩
theorem tz_S_1 (hS : tz_S b M w) : tz_P1 b M w := by
  obtain ⟨a1, a2, a3, a4, b1, b2, b3, c1, c2, c3, c4, c5, h4, d1, d2, d3, d4, d5⟩ := hS
  exact ⟨a1, a2, a3, a4⟩
theorem tz_S_2 (hS : tz_S b M w) : tz_P2 b M w := by
  obtain ⟨a1, a2, a3, a4, b1, b2, b3, c1, c2, c3, c4, c5, h4, d1, d2, d3, d4, d5⟩ := hS
  exact ⟨b1, b2, b3⟩
theorem tz_S_3 (hS : tz_S b M w) : tz_P3 b M w := by
  obtain ⟨a1, a2, a3, a4, b1, b2, b3, c1, c2, c3, c4, c5, h4, d1, d2, d3, d4, d5⟩ := hS
  exact ⟨c1, c2, c3, c4, c5⟩
theorem tz_S_4 (hS : tz_S b M w) : tz_P4 b M w := by
  obtain ⟨a1, a2, a3, a4, b1, b2, b3, c1, c2, c3, c4, c5, h4, d1, d2, d3, d4, d5⟩ := hS
  exact h4
theorem tz_S_5 (hS : tz_S b M w) : tz_P5 b M w := by
  obtain ⟨a1, a2, a3, a4, b1, b2, b3, c1, c2, c3, c4, c5, h4, d1, d2, d3, d4, d5⟩ := hS
  exact ⟨d1, d2, d3, d4, d5⟩
theorem tz_P1_c (h : tz_P1 b M w) (h0 : w 0 ≤ 8) (hc : ∀ c : Nat, 1 ≤ c → c ≤ 5 → M'.1 (b + c) = M.1 (b + c)) (hr : ∀ j : Int, j = 0 ∨ j = 9 ∨ j = 10 ∨ (11 ≤ j ∧ j < 43) → w2 j = w j) : tz_P1 b M' w2 := by
  obtain ⟨a1, a2, a3, a4⟩ := h
  unfold tz_P1
  rw [hc 1 (by omega) (by omega), hc 2 (by omega) (by omega), hc 3 (by omega) (by omega), hc 4 (by omega) (by omega), hc 5 (by omega) (by omega), hr 0 (by omega), hr 9 (by omega), hr 10 (by omega)]
  refine ⟨a1, fun s h1 h2 => ?_, a3, a4⟩
  have h3 := a2 s h1 h2
  unfold tz_a at h3 ⊢
  rw [hr _ (by omega), hr _ (by omega), hr _ (by omega), hr _ (by omega)]
  exact h3
theorem tz_P2_c (h : tz_P2 b M w) (h0 : w 1 ≤ 6) (hc : ∀ c : Nat, 6 ≤ c → c ≤ 8 → M'.1 (b + c) = M.1 (b + c)) (hr : ∀ j : Int, j = 1 ∨ j = 2 ∨ (43 ≤ j ∧ j < 55) → w2 j = w j) : tz_P2 b M' w2 := by
  obtain ⟨a1, a2, a3⟩ := h
  unfold tz_P2
  rw [hc 6 (by omega) (by omega), hc 7 (by omega) (by omega), hc 8 (by omega) (by omega), hr 1 (by omega), hr 2 (by omega)]
  refine ⟨a1, a2, fun s h1 h2 => ?_⟩
  have h3 := a3 s h1 h2
  unfold tz_pi tz_pp at h3 ⊢
  rw [hr _ (by omega), hr _ (by omega)]
  exact h3
theorem tz_P3_c (h : tz_P3 b M w) (h0 : w 3 ≤ 5) (hc : ∀ c : Nat, 9 ≤ c → c ≤ 10 → M'.1 (b + c) = M.1 (b + c)) (hr : ∀ j : Int, j = 3 ∨ j = 4 ∨ (55 ≤ j ∧ j < 62) → w2 j = w j) : tz_P3 b M' w2 := by
  obtain ⟨a1, a2, a3, a4, a5⟩ := h
  have e0 : tz_mo w2 0 = tz_mo w 0 := hr _ (by omega)
  unfold tz_P3
  rw [hc 9 (by omega) (by omega), hc 10 (by omega) (by omega), hr 3 (by omega), hr 4 (by omega), hr 60 (by omega), hr 61 (by omega), e0]
  refine ⟨a1, a2, fun k h1 h2 h3 => a3 k h1 h2 ?_, a4, fun k h1 h2 => ?_⟩
  · rw [← h3]; exact (hr (55 + k) (by omega)).symm
  · rw [a5 k h1 h2]; exact (hr (55 + k) (by omega)).symm
theorem tz_P4_c (h : tz_P4 b M w) (hc : M'.2.1 (b + 11) 0 = M.2.1 (b + 11) 0) (hr : ∀ j : Int, 82 ≤ j → j < 146 → w2 j = w j) : tz_P4 b M' w2 := by
  intro k hk
  rw [hc, h k hk, show tz_we w2 (k : Int) = tz_we w (k : Int) from hr _ (by omega) (by omega)]
theorem tz_P5_c (h : tz_P5 b M w) (hc : M'.1 b = M.1 b) (hd : M'.1 (b + 13) = M.1 (b + 13)) (hr : ∀ j : Int, (5 ≤ j ∧ j ≤ 8) ∨ (62 ≤ j ∧ j < 82) → w2 j = w j) : tz_P5 b M' w2 := by
  obtain ⟨a1, a2, a3, a4, a5⟩ := h
  unfold tz_P5
  rw [hc, hd, hr 5 (by omega), hr 6 (by omega), hr 7 (by omega), hr 8 (by omega)]
  refine ⟨fun k h1 h2 => ?_, a2, a3, a4, a5⟩
  rw [a1 k h1 h2]; exact (hr (62 + k) (by omega)).symm
/-- two rows that agree below 146 -/
def tz_E (w w2 : Int → Int) : Prop := ∀ j : Int, 0 ≤ j → j < 146 → w2 j = w j
/-- a State stands for every row that agrees, in every memory that agrees -/
theorem tz_S_c (hW : tz_W B w) (hS : tz_S b M w) (hc : ∀ c : Nat, c < 14 → M'.1 (b + c) = M.1 (b + c)) (hc2 : M'.2.1 (b + 11) 0 = M.2.1 (b + 11) 0) (hr : tz_E w w2) : tz_S b M' w2 := by
  obtain ⟨e0, e1, _, e3, _⟩ := hW
  exact tz_S_of (tz_P1_c (tz_S_1 hS) e0.2 (fun c _ h2 => hc c (by omega)) (fun j h => hr j (by omega) (by omega))) (tz_P2_c (tz_S_2 hS) e1.2 (fun c _ h2 => hc c (by omega)) (fun j h => hr j (by omega) (by omega))) (tz_P3_c (tz_S_3 hS) e3.2 (fun c _ h2 => hc c (by omega)) (fun j h => hr j (by omega) (by omega))) (tz_P4_c (tz_S_4 hS) hc2 (fun j h h' => hr j (by omega) (by omega))) (tz_P5_c (tz_S_5 hS) (hc 0 (by omega)) (hc 13 (by omega)) (fun j h => hr j (by omega) (by omega)))
theorem tz_F_rfl : tz_F b M M := ⟨fun _ _ => ⟨rfl, rfl⟩, rfl⟩
theorem tz_F_tr (h1 : tz_F b M M') (h2 : tz_F b M' M'') : tz_F b M M'' := ⟨fun a h => ⟨(h2.1 a h).1.trans (h1.1 a h).1, (h2.1 a h).2.trans (h1.1 a h).2⟩, h2.2.trans h1.2⟩
theorem tz_F_si {c : Nat} {k v : Int} (h1 : c < 14) (h : tz_F b M M') : tz_F b M (ts_si M' (b + c) k v) := ⟨fun a h2 => ⟨(ts_si_ne (by omega)).trans (h.1 a h2).1, (h.1 a h2).2⟩, h.2⟩
theorem tz_F_si0 {k v : Int} (h : tz_F b M M') : tz_F b M (ts_si M' b k v) := ⟨fun a h2 => ⟨(ts_si_ne (by omega)).trans (h.1 a h2).1, (h.1 a h2).2⟩, h.2⟩
theorem tz_F_sl {c : Nat} {k : Int} {v : Int64} (h1 : c < 14) (h : tz_F b M M') : tz_F b M (ts_sl M' (b + c) k v) := ⟨fun a h2 => ⟨(h.1 a h2).1, (ts_sl_ne (by omega)).trans (h.1 a h2).2⟩, h.2⟩
theorem tz_fu_e {f : Int → Int} {k v : Int} : ts_fu f k v k = v := if_pos rfl
theorem tz_fu_n {f : Int → Int} {k v j : Int} (h : j ≠ k) : ts_fu f k v j = f j := if_neg h
theorem tz_si_a {a : Nat} {k v : Int} : (ts_si M a k v).1 a k = v := by rw [ts_si_eq, tz_fu_e]
theorem tz_si_k {a : Nat} {k v j : Int} (h : j ≠ k) : (ts_si M a k v).1 a j = M.1 a j := by rw [ts_si_eq, tz_fu_n h]
/-- addSpoon -/
theorem to_spoon_o {j : Int} (h1 : ¬ (j = 0 ∨ (11 + 4 * w 0 ≤ j ∧ j ≤ 11 + 4 * w 0 + 2))) : to_spoon w p1 p2 j = w j := by
  unfold to_spoon
  rw [tz_fu_n (by omega), tz_fu_n (by omega), tz_fu_n (by omega), tz_fu_n (by omega)]
theorem to_spoon_0 (h0 : 0 ≤ w 0) : to_spoon w p1 p2 0 = w 0 + 1 := by
  unfold to_spoon
  rw [tz_fu_n (by omega), tz_fu_n (by omega), tz_fu_n (by omega), tz_fu_e]
theorem tc_add (hW : tz_W B w) (hS : tz_S b M w) (h1 : w 0 < 8) (hQ : ∀ M' : ts_M, tz_F b M M' → tz_S b M' (to_spoon w p1 p2) → Q (w 0) M') : wX8_add b p1 p2 Q M := by
  obtain ⟨e0, e1, _, e3, _, _, _, _, _, _, _, _, ez, _⟩ := hW
  have s0 := hS.1
  have n0 : ts_w (w 0) = w 0 := tz_n (by omega) (by omega)
  have n8 : 0 ≤ w 0 ∧ w 0 < ((8 : Nat) : Int) := ⟨e0.1, by omega⟩
  simp only [wX8_add, forall_eq]
  have r1 : ∀ (m : ts_M) (c : Nat) (k v : Int), c ≠ 1 → (ts_si m (b + c) k v).1 (b + 1) 4 = m.1 (b + 1) 4 := fun m c k v h => by rw [ts_si_ne (by omega)]
  simp only [r1 _ 2 _ _ (by decide), r1 _ 3 _ _ (by decide), r1 _ 4 _ _ (by decide), r1 _ 5 _ _ (by decide), tz_si_a, s0, n0]
  rw [tz_y h1, tz_p n8, tz_p n8, tz_p n8, tz_p n8, Int.add_sub_cancel]
  refine hQ _ (tz_F_si (by omega) (tz_F_si (by omega) (tz_F_si (by omega) (tz_F_si (by omega) (tz_F_si (by omega) tz_F_rfl))))) ?_
  refine tz_S_of ?_ (tz_P2_c (tz_S_2 hS) e1.2 (fun c h2 h3 => ?_) (fun j h => to_spoon_o (by omega))) (tz_P3_c (tz_S_3 hS) e3.2 (fun c h2 h3 => ?_) (fun j h => to_spoon_o (by omega))) (tz_P4_c (tz_S_4 hS) rfl (fun j h h' => to_spoon_o (by omega))) (tz_P5_c (tz_S_5 hS) ?_ ?_ (fun j h => to_spoon_o (by omega)))
  · obtain ⟨a1, a2, a3, a4⟩ := tz_S_1 hS
    unfold tz_P1
    rw [to_spoon_0 e0.1, to_spoon_o (by omega), to_spoon_o (by omega)]
    refine ⟨tz_si_a, fun s h2 h3 => ?_, ?_, ?_⟩
    · by_cases c1 : s = w 0
      · subst c1
        refine ⟨?_, ?_, ?_, ?_⟩
        · rw [ts_si_ne (by omega), ts_si_ne (by omega), ts_si_ne (by omega), ts_si_ne (by omega), tz_si_a]
          unfold tz_a to_spoon
          rw [tz_fu_n (by omega), tz_fu_n (by omega), tz_fu_e]
        · rw [ts_si_ne (by omega), ts_si_ne (by omega), ts_si_ne (by omega), tz_si_a]
          unfold tz_a to_spoon
          rw [tz_fu_n (by omega), tz_fu_e]
        · rw [ts_si_ne (by omega), ts_si_ne (by omega), tz_si_a]
          unfold tz_a to_spoon
          rw [tz_fu_e]
        · rw [ts_si_ne (by omega), tz_si_a]
          unfold tz_a
          rw [to_spoon_o (by omega)]
          exact (ez (w 0) (Int.le_refl _) h1).symm
      · have h4 := a2 s h2 (by omega)
        unfold tz_a at h4 ⊢
        rw [to_spoon_o (by omega), to_spoon_o (by omega), to_spoon_o (by omega), to_spoon_o (by omega)]
        refine ⟨?_, ?_, ?_, ?_⟩
        · rw [ts_si_ne (by omega), ts_si_ne (by omega), ts_si_ne (by omega), ts_si_ne (by omega), tz_si_k c1]; exact h4.1
        · rw [ts_si_ne (by omega), ts_si_ne (by omega), ts_si_ne (by omega), tz_si_k c1, ts_si_ne (by omega)]; exact h4.2.1
        · rw [ts_si_ne (by omega), ts_si_ne (by omega), tz_si_k c1, ts_si_ne (by omega), ts_si_ne (by omega)]; exact h4.2.2.1
        · rw [ts_si_ne (by omega), tz_si_k c1, ts_si_ne (by omega), ts_si_ne (by omega), ts_si_ne (by omega)]; exact h4.2.2.2
    · rw [tz_si_k (by omega), tz_si_k (by omega), ts_si_ne (by omega), ts_si_ne (by omega), ts_si_ne (by omega), ts_si_ne (by omega)]; exact a3
    · rw [tz_si_k (by omega), ts_si_ne (by omega), ts_si_ne (by omega), ts_si_ne (by omega), ts_si_ne (by omega)]; exact a4
  · rw [ts_si_ne (by omega), ts_si_ne (by omega), ts_si_ne (by omega), ts_si_ne (by omega), ts_si_ne (by omega)]
  · rw [ts_si_ne (by omega), ts_si_ne (by omega), ts_si_ne (by omega), ts_si_ne (by omega), ts_si_ne (by omega)]
  · rw [ts_si_ne (by omega), ts_si_ne (by omega), ts_si_ne (by omega), ts_si_ne (by omega), ts_si_ne (by omega)]
  · rw [ts_si_ne (by omega), ts_si_ne (by omega), ts_si_ne (by omega), ts_si_ne (by omega), ts_si_ne (by omega)]
end TZD
