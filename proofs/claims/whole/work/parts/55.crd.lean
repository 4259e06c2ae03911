/-! ===== the class: a State stands for a row; its readers ===== -/
def tz_bit (x : Int64) (k : Nat) : Bool := x.toBitVec.getLsbD k
def tz_S (b : Nat) (M : ts_M) (w : Int → Int) : Prop :=
  M.1 (b + 1) 4 = w 0 ∧ (∀ s : Int, 0 ≤ s → s < w 0 → M.1 (b + 2) s = tz_a w s 0 ∧ M.1 (b + 3) s = tz_a w s 1 ∧ M.1 (b + 4) s = tz_a w s 2 ∧ M.1 (b + 5) s = tz_a w s 3) ∧
  M.1 (b + 1) 5 + M.1 (b + 1) 6 = w 9 ∧ M.1 (b + 1) 7 = w 10 ∧
  M.1 (b + 6) 2 = w 1 ∧ M.1 (b + 6) 3 = w 2 ∧ (∀ i : Int, 0 ≤ i → i < w 1 → M.1 (b + 7) i = tz_pi w i ∧ M.1 (b + 8) i = tz_pp w i) ∧
  M.1 (b + 9) 1 = w 3 ∧ (0 < w 3 → tz_mo w 0 = 0 → M.1 (b + 9) 2 = w 60) ∧ (∀ k : Int, 0 ≤ k → k < w 3 → tz_mo w k = 1 → M.1 (b + 9) 3 = w 61) ∧ M.1 (b + 9) 4 = w 4 ∧ (∀ k : Int, 0 ≤ k → k < w 3 → M.1 (b + 10) k = tz_mo w k) ∧
  (∀ k : Nat, k < 64 → tz_bit (M.2.1 (b + 11) 0) k = decide (tz_we w (k : Int) = 1)) ∧ (∀ k : Int, 0 ≤ k → k < 20 → M.1 (b + 13) k = tz_mi w k) ∧ M.1 b 5 = w 6 ∧ M.1 b 6 = w 5 ∧ M.1 b 7 = w 7 ∧ M.1 b 8 = w 8
section TZC
variable {p p1 p2 p3 lo up B : Int} {Q : Int → ts_M → Prop} {Qv : ts_M → Prop} {M : ts_M} {b : Nat} {w : Int → Int}
theorem tc_isBetween (h1 : ts_w p = p) (h2 : ts_w lo = lo) (h3 : ts_w up = up) : wX11_isBetween p lo up Q M ↔ Q (tz_i (tz_in lo p up)) M := by
  simp only [wX11_isBetween, wX11_isBetween_B14, wX11_isBetween_B15, h1, h2, h3, tz_g0, tz_g1]
  cases h4 : tz_in lo p up
  · have h5 := tz_in_f.mp h4
    rw [tz_i0]
    constructor
    · intro h6
      by_cases h7 : p < lo
      · exact h6.1 h7
      · exact (h6.2 h7).1 (by omega)
    · intro h6
      exact ⟨fun _ => h6, fun h7 => ⟨fun _ => h6, fun h8 => absurd ⟨by omega, by omega⟩ h5⟩⟩
  · have h5 := tz_in_t.mp h4
    rw [tz_i1]
    exact ⟨fun h6 => (h6.2 (by omega)).2 (by omega), fun h6 => ⟨fun h7 => by omega, fun _ => ⟨fun h7 => by omega, fun _ => h6⟩⟩⟩
theorem tc_hasCell (h1 : ts_w p1 = p1) (h2 : ts_w p2 = p2) : wX1_hasCell p1 p2 Q M ↔ Q (tz_i (tz_in 0 p1 7 && tz_in 0 p2 7)) M := by
  unfold wX1_hasCell
  rw [tc_isBetween h1 rfl rfl]
  simp only [tc_isBetween h2 (lo := 0) (up := 7) rfl rfl, tz_iw, tz_iz, wX1_hasCell_B24, wX1_hasCell_B25, tz_g0, tz_g1]
  cases tz_in 0 p1 7 <;> cases tz_in 0 p2 7 <;> simp [tz_i]
theorem tc_has (h0 : M.1 (b + 1) 4 = w 0) (h1 : ts_w p = p) (h2 : 0 ≤ w 0 ∧ w 0 ≤ 8) : wX8_has b p Q M ↔ Q (tz_i (tz_in 0 p (w 0 - 1))) M := by
  simp only [wX8_has, wX8_has_B16, wX8_has_B17, h0, h1, tz_g0, tz_g1]
  rw [tz_n (x := w 0) (by omega) (by omega)]
  cases h4 : tz_in 0 p (w 0 - 1)
  · have h5 := tz_in_f.mp h4
    rw [tz_i0]
    constructor
    · intro h6
      by_cases h7 : p < 0
      · exact h6.1 h7
      · exact (h6.2 h7).1 (by omega)
    · intro h6
      exact ⟨fun _ => h6, fun h7 => ⟨fun _ => h6, fun h8 => absurd ⟨by omega, by omega⟩ h5⟩⟩
  · have h5 := tz_in_t.mp h4
    rw [tz_i1]
    exact ⟨fun h6 => (h6.2 (by omega)).2 (by omega), fun h6 => ⟨fun h7 => by omega, fun _ => ⟨fun h7 => by omega, fun _ => h6⟩⟩⟩
theorem tc_abs (h1 : 0 ≤ p1) (h2 : p1 ≤ 200) (h3 : 0 ≤ p2) (h4 : p2 ≤ 200) : wJ9_abs_0f7a4 (p1 - p2) Q M ↔ Q (tz_df p1 p2) M := by
  simp only [wJ9_abs_0f7a4, wJ9_abs_0f7a4_B10]
  rw [tz_n (x := p1 - p2) (by omega) (by omega)]
  unfold tz_df
  by_cases h5 : p1 < p2
  · rw [if_pos h5, show -(p1 - p2) = p2 - p1 by omega]; exact ⟨fun h6 => h6.2 (by omega), fun h6 => ⟨fun h7 => by omega, fun _ => h6⟩⟩
  · rw [if_neg h5]; exact ⟨fun h6 => h6.1 (by omega), fun h6 => ⟨fun _ => h6, fun h7 => by omega⟩⟩
theorem tc_placeOf (h0 : M.1 (b + 6) 2 = w 1) (hL : tz_L w) (h2 : ∀ i : Int, 0 ≤ i → i < w 1 → M.1 (b + 7) i = tz_pi w i) : wX4_placeOf b p Q M ↔ Q (tz_pl w (ts_w p)) M := by
  obtain ⟨e1, e3⟩ := hL
  simp only [wX4_placeOf, forall_eq]
  refine tz_it2 (fun d x1 x2 M' => M' = M ∧ x1 = p ∧ 0 ≤ x2 ∧ x2 ≤ w 1 ∧ d = (6 - x2).toNat ∧ tz_find (w 1) (tz_pi w) (ts_w p) 6 0 = tz_find (w 1) (tz_pi w) (ts_w p) d x2) ?_ 6 ⟨rfl, rfl, by omega, by omega, rfl, rfl⟩
  rintro d x1 x2 M' ⟨rfl, rfl, h3, h4, h5, h6⟩
  simp only [wX4_placeOf_L2, forall_eq]
  rw [h0, tz_n (x := x2) (by omega) (by omega), tz_n (x := w 1) (by omega) (by omega)]
  by_cases c1 : w 1 ≤ x2
  · left
    intro k
    have h7 : tz_pl w (ts_w x1) = -1 := by
      unfold tz_pl; rw [h6]
      cases d with
      | zero => rfl
      | succ n => unfold tz_find; rw [if_pos c1]
    rw [h7]
    exact ⟨fun h => h.1 c1, fun h => ⟨fun _ => h, fun h8 => absurd c1 h8⟩⟩
  · rw [h2 x2 h3 (by omega), (e3 x2 h3 (by omega)).1]
    cases d with
    | zero => omega
    | succ n =>
      by_cases h7 : tz_pi w x2 = ts_w x1
      · left
        intro k
        have h9 : tz_pl w (ts_w x1) = x2 := by
          unfold tz_pl; rw [h6]; unfold tz_find; rw [if_neg c1, if_pos h7]
        rw [h9]
        exact ⟨fun h => ((h.2 c1).2).2 h7, fun h => ⟨fun h10 => absurd h10 c1, fun _ => ⟨⟨h3, by omega⟩, fun h10 => absurd h7 h10, fun _ => h⟩⟩⟩
      · right
        refine ⟨n, x1, x2 + 1, M', Nat.lt_succ_self n, ⟨rfl, rfl, by omega, by omega, by omega, ?_⟩, ?_⟩
        · rw [h6]; conv => lhs; unfold tz_find
          rw [if_neg c1, if_neg h7]
        · intro k
          exact ⟨fun h => ((h.2 c1).2).1 h7, fun h => ⟨fun h10 => absurd h10 c1, fun _ => ⟨⟨h3, by omega⟩, fun _ => h, fun h10 => absurd h10 h7⟩⟩⟩
def tz_po (w : Int → Int) (v : Int) : Int := if tz_pl w v = -1 then 0 else tz_pp w (tz_pl w v)
theorem tz_po_rng {v : Int} (hL : tz_L w) : 0 ≤ tz_po w v ∧ tz_po w v ≤ 99 := by
  unfold tz_po
  split
  · omega
  · rcases tz_pl_rng (w := w) (v := v) hL.1.2 with h2 | h2
    · omega
    · exact (hL.2 _ h2.1 h2.2.1).2
theorem tc_positionOf (h0 : M.1 (b + 6) 2 = w 1) (hL : tz_L w) (h2 : ∀ i : Int, 0 ≤ i → i < w 1 → M.1 (b + 7) i = tz_pi w i) (h3 : ∀ i : Int, 0 ≤ i → i < w 1 → M.1 (b + 8) i = tz_pp w i) : wX4_positionOf b p Q M ↔ Q (tz_po w (ts_w p)) M := by
  simp only [wX4_positionOf, wX4_positionOf_B21, forall_eq]
  rw [tc_placeOf h0 hL h2]
  have h4 := hL.1
  unfold tz_po
  rcases tz_pl_rng (w := w) (v := ts_w p) hL.1.2 with h5 | h5
  · rw [h5, if_pos rfl]
    exact ⟨fun h => h.2 rfl, fun h => ⟨fun h6 => absurd rfl h6, fun _ => h⟩⟩
  · rw [tz_n (x := tz_pl w (ts_w p)) (by omega) (by omega), if_neg (by omega), h3 _ h5.1 h5.2.1]
    exact ⟨fun h => (h.1 (by omega)).2, fun h => ⟨fun _ => ⟨⟨h5.1, by omega⟩, h⟩, fun h6 => absurd h6 (by omega)⟩⟩
theorem tc_rankAt (h0 : M.1 (b + 9) 1 = w 3) (h1 : 0 ≤ w 3 ∧ w 3 ≤ 5) (h2 : ∀ k : Int, 0 ≤ k → k < w 3 → M.1 (b + 10) k = tz_mo w k) (h3 : ts_w p = p) : wX10_rankAt b p Q M ↔ Q (if 0 ≤ p ∧ p < w 3 then tz_mo w p else -1) M := by
  simp only [wX10_rankAt, wX10_rankAt_B21, wX10_rankAt_B22, h0, h3]
  rw [tz_n (x := w 3) (by omega) (by omega)]
  by_cases c1 : p < 0
  · rw [if_neg (by omega)]
    exact ⟨fun h => h.1 c1, fun h => ⟨fun _ => h, fun h4 => absurd c1 h4⟩⟩
  · by_cases c2 : w 3 ≤ p
    · rw [if_neg (by omega)]
      exact ⟨fun h => (h.2 c1).1 c2, fun h => ⟨fun h4 => absurd h4 c1, fun _ => ⟨fun _ => h, fun h4 => absurd c2 h4⟩⟩⟩
    · rw [if_pos (by omega), h2 p (by omega) (by omega)]
      exact ⟨fun h => ((h.2 c1).2 c2).2, fun h => ⟨fun h4 => absurd h4 c1, fun _ => ⟨fun h4 => absurd h4 c2, fun _ => ⟨⟨by omega, by omega⟩, h⟩⟩⟩⟩
theorem tc_topRank (h0 : M.1 (b + 9) 1 = w 3) (h1 : 0 ≤ w 3 ∧ w 3 ≤ 5) (h2 : ∀ k : Int, 0 ≤ k → k < w 3 → M.1 (b + 10) k = tz_mo w k) : wX10_topRank b Q M ↔ Q (tz_top w) M := by
  unfold wX10_topRank
  rw [h0, tc_rankAt h0 h1 h2 (tz_n (by omega) (by omega))]
  unfold tz_top
  by_cases c1 : w 3 = 0
  · rw [if_pos c1, if_neg (by omega)]
  · rw [if_neg c1, if_pos (by omega)]
theorem tc_admits (hW : tz_W B w) (hS : tz_S b M w) (h1 : 0 ≤ p) (h2 : p ≤ 4) : wX10_admits b p Q M ↔ Q (tz_i (tz_adm w p)) M := by
  have ht := tz_top_rng hW
  have hp := tz_top_pos hW
  obtain ⟨_, _, _, e1, e2, _⟩ := hW
  obtain ⟨_, _, _, _, _, _, _, s1, _, _, s2, s3, _⟩ := hS
  simp only [wX10_admits, wX10_admits_B47, wX10_admits_B46, wX10_admits_B42, wX10_admits_B21, wX10_admits_B16, tc_topRank s1 e1 s3, s1, s2, tz_g0, tz_g1]
  rw [tz_n (x := p) (by omega) (by omega), tz_n (x := w 3) (by omega) (by omega), tz_n (x := tz_top w) (by omega) (by omega), tz_n (x := w 4) (by omega) (by omega)]
  unfold tz_adm
  by_cases c2 : w 3 = 0
  · rw [tz_y2 c2]
    by_cases c1 : p = 0
    · rw [tz_y c1, if_pos c1, decide_eq_true c2]; exact Iff.rfl
    · rw [tz_x c1, if_neg c1, if_pos c2]
      by_cases c3 : p = 4
      · rw [tz_y2 c3, decide_eq_true c3]; exact Iff.rfl
      · rw [tz_x2 c3, decide_eq_false c3]; exact Iff.rfl
  · rw [tz_x2 c2]
    have c9 := hp c2
    by_cases c1 : p = 0
    · rw [tz_y (by omega), if_pos c1, decide_eq_false c2]; exact Iff.rfl
    · rw [if_neg c1, if_neg c2]
      by_cases c3 : p ≤ tz_top w
      · have c4 : ¬ tz_top w < p := by omega
        rw [tz_y c3, decide_eq_false c4]; exact Iff.rfl
      · have c4 : tz_top w < p := by omega
        rw [tz_x c3, decide_eq_true c4]
        by_cases c5 : p = 1
        · have c7 : ¬ p ≠ 1 := fun h => h c5
          rw [tz_y2 c5, decide_eq_false c7]
          by_cases c6 : w 4 = 0
          · rw [tz_y2 c6, decide_eq_true c6]; exact Iff.rfl
          · rw [tz_x2 c6, decide_eq_false c6]; exact Iff.rfl
        · rw [tz_x2 c5, decide_eq_true (show p ≠ 1 from c5)]; exact Iff.rfl
theorem tc_amended (h1 : 0 ≤ p) (h2 : p ≤ 99) (h3 : -20 ≤ M.1 (b + 9) 3 ∧ M.1 (b + 9) 3 ≤ 20) : wX9_amended b p Q M ↔ Q (tz_cl (p + M.1 (b + 9) 3)) M := by
  simp only [wX9_amended, wJ9_min_7cf53, wJ9_min_7cf53_B10, wJ9_max_7cf53, wJ9_max_7cf53_B10]
  rw [tz_n (x := p + M.1 (b + 9) 3) (by omega) (by omega), tz_n (x := 99) (by omega) (by omega), tz_n0]
  unfold tz_cl
  by_cases c1 : p + M.1 (b + 9) 3 < 0
  · have c2 : p + M.1 (b + 9) 3 < 99 := by omega
    have c3 : ¬ 0 < p + M.1 (b + 9) 3 := by omega
    rw [if_pos c1]
    exact ⟨fun h => (h.1 c2).2 c3, fun h => ⟨fun _ => ⟨fun h4 => absurd h4 c3, fun _ => h⟩, fun h4 => absurd c2 h4⟩⟩
  · rw [if_neg c1]
    by_cases c2 : p + M.1 (b + 9) 3 < 99
    · rw [if_neg (by omega)]
      by_cases c3 : 0 < p + M.1 (b + 9) 3
      · exact ⟨fun h => (h.1 c2).1 c3, fun h => ⟨fun _ => ⟨fun _ => h, fun h4 => absurd c3 h4⟩, fun h4 => absurd c2 h4⟩⟩
      · have c4 : p + M.1 (b + 9) 3 = 0 := by omega
        rw [c4]
        exact ⟨fun h => (h.1 (by omega)).2 (by omega), fun h => ⟨fun _ => ⟨fun _ => h, fun _ => h⟩, fun h4 => absurd h4 (by omega)⟩⟩
    · have c5 : (if 99 < p + M.1 (b + 9) 3 then 99 else p + M.1 (b + 9) 3) = 99 := by split <;> omega
      rw [c5]
      exact ⟨fun h => (h.2 c2).1 (by omega), fun h => ⟨fun h4 => absurd h4 c2, fun _ => ⟨fun _ => h, fun h4 => absurd (by omega) h4⟩⟩⟩
/-- what the State at b holds where the top motion says how a spoon votes -/
theorem tc_saysYes (hW : tz_W B w) (hS : tz_S b M w) (hB : B ≤ 1000000000) (h0 : w 3 ≠ 0) (h1 : 0 ≤ p) (h2 : p < w 0) (h3 : 0 ≤ p2 ∧ p2 ≤ 99) (h4 : tz_top w ≤ 2 → p2 = tz_mp w) : wX9_saysYes b p p2 Q M ↔ Q (tz_i (tz_for w p)) M := by
  have ht := tz_top_pos hW h0
  have h61 := tz_W61 hW
  have hm := tz_main_of hW
  obtain ⟨e0, _, _, e3, _, _, _, _, _, _, _, e1, _⟩ := hW
  obtain ⟨s0, s1, _, _, _, _, _, s7, _, s9, _, s11, _⟩ := hS
  have e5 := e1 p h1 h2
  have s5 := s1 p h1 h2
  have hd := tz_df_rng h3.1 h3.2 e5.2.1.1 e5.2.1.2
  have hin : tz_in 0 p (w 0 - 1) = true := tz_in_t.mpr ⟨h1, by omega⟩
  unfold wX9_saysYes
  rw [tc_has s0 (tz_n (by omega) (by omega)) e0, hin, tz_i1]
  simp only [tz_n1, forall_eq, tz_n (x := p) (by omega) (by omega), s5.2.1, s5.2.2.1, s5.2.2.2]
  rw [tc_abs h3.1 (by omega) e5.2.1.1 (by omega), tc_topRank s7 e3 s11, tz_n (x := tz_top w) (by omega) (by omega), tz_n (x := tz_df p2 (tz_a w p 1)) (by omega) (by omega)]
  simp only [s5.2.2.1, s5.2.2.2, tz_n (x := tz_a w p 3) (by omega) (by omega)]
  have z1 : ¬ ((1 : Int) = 0) := by decide
  rw [tz_x2 z1, tz_p ⟨h1, by omega⟩]
  simp only [wX9_saysYes_B79, wX9_saysYes_B107, wX9_saysYes_B119, wX9_saysYes_B137, wX9_saysYes_B156, tz_g0, tz_g1]
  unfold tz_for
  by_cases c0 : tz_top w = 0
  · rw [tz_y c0, if_pos c0]
    unfold tz_lk
    rw [← h4 (by omega)]
    by_cases c1 : tz_df p2 (tz_a w p 1) ≤ 25
    · rw [tz_x (by omega), decide_eq_true c1]; exact Iff.rfl
    · rw [tz_y (by omega), decide_eq_false c1]; exact Iff.rfl
  · rw [tz_x c0, if_neg c0]
    by_cases c1 : tz_top w = 1
    · have k1 : M.1 (b + 9) 3 = w 61 := by
        have k2 : w 3 ≠ 0 := h0
        refine s9 (w 3 - 1) (by omega) (by omega) ?_
        unfold tz_top at c1
        rw [if_neg h0] at c1
        exact c1
      have k3 : 0 ≤ tz_ch w ∧ tz_ch w ≤ 99 := tz_cl_rng
      have k4 := tz_df_rng k3.1 k3.2 e5.2.1.1 e5.2.1.2
      rw [tz_y c1, if_pos c1, tc_amended h3.1 h3.2 (by rw [k1]; exact h61), k1, h4 (by omega)]
      simp only [tz_n (x := p) (by omega) (by omega), s5.2.1]
      rw [show tz_cl (tz_mp w + w 61) = tz_ch w from rfl, tz_p ⟨h1, by omega⟩, tc_abs k3.1 (by omega) e5.2.1.1 (by omega), tz_n (x := tz_df (tz_ch w) (tz_a w p 1)) (by omega) (by omega)]
      by_cases c2 : tz_df (tz_ch w) (tz_a w p 1) < tz_df (tz_mp w) (tz_a w p 1)
      · rw [tz_x (by omega), decide_eq_true c2]; exact Iff.rfl
      · rw [tz_y (by omega), decide_eq_false c2]; exact Iff.rfl
    · rw [tz_x c1, if_neg c1]
      by_cases c2 : tz_top w = 2
      · rw [tz_y c2, if_pos c2]
        unfold tz_lk
        rw [← h4 (by omega)]
        by_cases c3 : tz_df p2 (tz_a w p 1) ≤ 25
        · rw [tz_y c3, decide_eq_true c3]; exact Iff.rfl
        · rw [tz_x c3, decide_eq_false c3]; exact Iff.rfl
      · rw [tz_x c2, if_neg c2]
        by_cases c3 : tz_top w = 3
        · rw [tz_y c3, if_pos c3, tz_p ⟨h1, by omega⟩]
          by_cases c4 : 0 < tz_a w p 3
          · rw [tz_x (by omega), decide_eq_true c4]; exact Iff.rfl
          · rw [tz_y (by omega), decide_eq_false c4]; exact Iff.rfl
        · rw [tz_x c3, if_neg c3, tz_y (by omega : tz_top w = 4), tz_p ⟨h1, by omega⟩, tz_n (x := tz_a w p 2) (by omega) (by omega)]
          by_cases c4 : tz_a w p 2 < 3
          · rw [tz_x (by omega), decide_eq_true c4]; exact Iff.rfl
          · rw [tz_y (by omega), decide_eq_false c4]; exact Iff.rfl
end TZC
section TZC2
variable {p p1 p2 p3 lo up B : Int} {Q : Int → ts_M → Prop} {Qv : ts_M → Prop} {M : ts_M} {b : Nat} {w : Int → Int}
theorem tc_mainPosition (hS : tz_S b M w) (hL : tz_L w) : wX9_mainPosition b Q M ↔ Q (tz_po w (ts_w (M.1 (b + 9) 2))) M := by
  obtain ⟨_, _, _, _, s1, _, s2, _⟩ := hS
  unfold wX9_mainPosition
  exact tc_positionOf s1 hL (fun i h1 h2 => (s2 i h1 h2).1) (fun i h1 h2 => (s2 i h1 h2).2)
/-- where a top motion is about the proposal, the class's position is that of the main motion's proposal -/
theorem tc_po (hW : tz_W B w) (hB : B ≤ 1000000000) (hS : tz_S b M w) (h1 : 0 ≤ tz_top w) (h2 : tz_top w ≤ 3) : tz_po w (ts_w (M.1 (b + 9) 2)) = tz_mp w := by
  obtain ⟨m1, m2⟩ := tz_main_of hW h1 h2
  have h3 := tz_W60 hB hW m1 m2
  have h4 := tz_pl_main hW m1 m2
  obtain ⟨_, _, _, _, _, _, _, _, s8, _⟩ := hS
  rw [s8 m1 m2, h3]
  unfold tz_po tz_mp
  rw [if_neg (by omega)]
theorem tc_sumOf {q : Nat} {f : Int → Int} (h0 : M.1 (b + 1) 4 = w 0) (h1 : 0 ≤ w 0 ∧ w 0 ≤ 8) (h2 : ∀ s : Int, 0 ≤ s → s < w 0 → M.1 q s = f s) : wX8_sumOf b q Q M ↔ Q (tz_sum f (w 0).toNat) M := by
  simp only [wX8_sumOf, forall_eq]
  refine tz_it2 (fun d x1 x2 M' => M' = M ∧ 0 ≤ x2 ∧ x2 ≤ w 0 ∧ d = (w 0 - x2).toNat ∧ x1 = tz_sum f x2.toNat) ?_ (w 0).toNat ⟨rfl, by omega, by omega, by omega, rfl⟩
  rintro d x1 x2 M' ⟨rfl, h3, h4, h5, rfl⟩
  simp only [wX8_sumOf_L4, wX8_sumOf_B30, forall_eq]
  rw [h0, tz_n (x := w 0) (by omega) (by omega), tz_n (x := x2) (by omega) (by omega), tz_n (x := ((8 : Nat) : Int)) (by omega) (by omega)]
  by_cases c1 : w 0 ≤ x2
  · left
    intro k
    have c2 : x2 = w 0 := by omega
    subst c2
    exact tz_y c1
  · right
    refine ⟨(w 0 - (x2 + 1)).toNat, _, x2 + 1, M', by omega, ⟨rfl, by omega, by omega, rfl, rfl⟩, ?_⟩
    intro k
    have e2 : tz_sum f (x2 + 1).toNat = tz_sum f x2.toNat + f x2 := by
      rw [show (x2 + 1).toNat = x2.toNat + 1 by omega]
      show _ + f (x2.toNat : Int) = _
      rw [Int.toNat_of_nonneg h3]
    rw [e2, tz_x c1, tz_x (by omega), tz_p ⟨h3, by omega⟩, h2 x2 h3 (by omega)]
theorem tc_weightSum (hW : tz_W B w) (hS : tz_S b M w) : wX8_weightSum b Q M ↔ Q (tz_wts w) M := by
  unfold wX8_weightSum
  exact tc_sumOf hS.1 hW.1 (fun s h1 h2 => (hS.2.1 s h1 h2).1)
theorem tc_stanceSum (hW : tz_W B w) (hS : tz_S b M w) : wX8_stanceSum b Q M ↔ Q (tz_sta w) M := by
  unfold wX8_stanceSum
  exact tc_sumOf hS.1 hW.1 (fun s h1 h2 => (hS.2.1 s h1 h2).2.1)
theorem tc_countedLumps (hW : tz_W B w) (hS : tz_S b M w) : wX8_countedLumps b Q M ↔ Q (tz_sug w) M := by
  unfold wX8_countedLumps
  exact tc_sumOf hS.1 hW.1 (fun s h1 h2 => (hS.2.1 s h1 h2).2.2.1)
theorem tc_accountedLumps (hS : tz_S b M w) : wX8_accountedLumps b Q M ↔ Q (5 * w 0 + w 9 - w 10) M := by
  obtain ⟨s0, _, s2, s3, _⟩ := hS
  unfold wX8_accountedLumps
  rw [s0, s3, show 5 * w 0 + M.1 (b + 1) 5 + M.1 (b + 1) 6 - w 10 = 5 * w 0 + w 9 - w 10 by omega]
theorem tc_yesWeight (hW : tz_W B w) (hS : tz_S b M w) (hB : B ≤ 1000000000) (h0 : w 3 ≠ 0) : wX9_yesWeight b Q M ↔ Q (tz_yes w) M := by
  have ht := tz_top_pos hW h0
  have hp := tz_po_rng (w := w) (v := ts_w (M.1 (b + 9) 2)) (tz_L_of hB hW)
  unfold wX9_yesWeight
  rw [tc_mainPosition hS (tz_L_of hB hW)]
  simp only [forall_eq]
  refine tz_it3 (fun d x1 x2 x3 M' => M' = M ∧ x1 = tz_po w (ts_w (M.1 (b + 9) 2)) ∧ 0 ≤ x3 ∧ x3 ≤ w 0 ∧ d = (w 0 - x3).toNat ∧ x2 = tz_sum (tz_yw w) x3.toNat) ?_ (w 0).toNat ⟨rfl, rfl, by omega, hW.1.1, by omega, rfl⟩
  rintro d x1 x2 x3 M' ⟨rfl, rfl, h3, h4, h5, rfl⟩
  have e0 := hW.1
  have s0 := hS.1
  simp only [wX9_yesWeight_L9, wX9_yesWeight_B41, forall_eq]
  rw [s0, tz_n (x := w 0) (by omega) (by omega), tz_n (x := x3) (by omega) (by omega)]
  by_cases c1 : w 0 ≤ x3
  · left
    intro k
    have c2 : x3 = w 0 := by omega
    subst c2
    exact tz_y c1
  · right
    refine ⟨(w 0 - (x3 + 1)).toNat, tz_po w (ts_w (M'.1 (b + 9) 2)), _, x3 + 1, M', by omega, ⟨rfl, rfl, by omega, by omega, rfl, rfl⟩, ?_⟩
    intro k
    have e2 : tz_sum (tz_yw w) (x3 + 1).toNat = tz_sum (tz_yw w) x3.toNat + tz_yw w x3 := by
      rw [show (x3 + 1).toNat = x3.toNat + 1 by omega]
      show _ + tz_yw w (x3.toNat : Int) = _
      rw [Int.toNat_of_nonneg h3]
    rw [e2, tz_x c1, tc_saysYes hW hS hB h0 h3 (by omega) hp (fun h => tc_po hW hB hS ht.1 (by omega)), tz_iw, tz_iz, (hS.2.1 x3 h3 (by omega)).1]
    unfold tz_yw
    cases c2 : tz_for w x3
    · rw [tz_y rfl]
      simp only [Bool.false_eq_true, if_false, Int.add_zero]
    · rw [tz_x (by decide), tz_p ⟨h3, by omega⟩]
      simp only [if_true]
theorem tc_isEnough (hW : tz_W B w) (hS : tz_S b M w) (h0 : w 3 ≠ 0) : wX9_isEnough b (tz_yes w) Q M ↔ Q (tz_i (tz_ado w)) M := by
  have ht := tz_top_rng hW
  have hy := tz_yes_rng hW
  have hw := tz_wts_rng hW
  have e3 := hW.2.2.2.1
  have hS' := hS
  obtain ⟨s0, s1, _, _, _, _, _, s7, _, s9, _, s11, _⟩ := hS'
  unfold wX9_isEnough
  rw [tc_weightSum hW hS]
  simp only [wX9_isEnough_B48, forall_eq, tz_g0, tz_g1]
  rw [tc_topRank s7 e3 s11, tz_n (x := tz_top w) (by omega) (by omega), tz_n (x := 2 * tz_yes w) (by omega) (by omega), tz_n (x := 3 * tz_yes w) (by omega) (by omega), tz_n (x := 2 * tz_wts w) (by omega) (by omega), tz_n (x := tz_wts w) (by omega) (by omega)]
  unfold tz_ado
  by_cases c1 : tz_top w = 3
  · rw [if_pos c1, tz_y2 c1]
    by_cases c2 : 2 * tz_wts w ≤ 3 * tz_yes w
    · rw [decide_eq_true c2, tz_x (by omega)]; exact Iff.rfl
    · rw [decide_eq_false c2, tz_y (by omega)]; exact Iff.rfl
  · rw [if_neg c1, tz_x2 c1]
    by_cases c2 : tz_wts w < 2 * tz_yes w
    · rw [decide_eq_true c2, tz_x (by omega)]; exact Iff.rfl
    · rw [decide_eq_false c2, tz_y (by omega)]; exact Iff.rfl
end TZC2
