/-! ===== the reference's readers ===== -/
section TZM
variable {p p1 p2 p3 lo up B : Int} {Q : Int → ts_M → Prop} {M : ts_M}
theorem tm_isBetween (h1 : ts_w p = p) (h2 : ts_w lo = lo) (h3 : ts_w up = up) : wX12_isBetween p lo up Q M ↔ Q (tz_i (tz_in lo p up)) M := by
  simp only [wX12_isBetween, wX12_isBetween_B14, wX12_isBetween_B15, h1, h2, h3, tz_g0, tz_g1]
  cases h4 : tz_in lo p up
  · have h5 := tz_in_f.mp h4
    rw [tz_i0]
    constructor
    · intro h6
      by_cases h7 : p < lo
      · exact h6.1 h7
      · exact (h6.2 h7).1 (by omega)
    · intro h6
      exact ⟨fun _ => h6, fun h7 => ⟨fun _ => h6, fun h8 => absurd ⟨by omega, by omega⟩ h5⟩⟩
  · have h5 := tz_in_t.mp h4
    rw [tz_i1]
    exact ⟨fun h6 => (h6.2 (by omega)).2 (by omega), fun h6 => ⟨fun h7 => by omega, fun _ => ⟨fun h7 => by omega, fun _ => h6⟩⟩⟩
theorem tm_difference (h1 : 0 ≤ p1) (h2 : p1 ≤ 200) (h3 : 0 ≤ p2) (h4 : p2 ≤ 200) : wX12_difference p1 p2 Q M ↔ Q (tz_df p1 p2) M := by
  simp only [wX12_difference, wX12_difference_B14]
  rw [tz_n (x := p1) (by omega) (by omega), tz_n (x := p2) (by omega) (by omega)]
  unfold tz_df
  by_cases h5 : p1 < p2
  · rw [if_pos h5]; exact ⟨fun h6 => h6.2 (by omega), fun h6 => ⟨fun h7 => by omega, fun _ => h6⟩⟩
  · rw [if_neg h5]; exact ⟨fun h6 => h6.1 (by omega), fun h6 => ⟨fun _ => h6, fun h7 => by omega⟩⟩
theorem tm_spoon {k : Int} (h1 : 0 ≤ p) (h2 : p < 8) (h3 : 0 ≤ k) (h4 : k ≤ 3) : wX12_spoon p k Q M ↔ Q (tz_a (M.1 165) p k) M := by
  unfold wX12_spoon
  rw [tz_n (x := 11 + 4 * p + k) (by omega) (by omega)]
  exact ⟨fun h => h.2, fun h => ⟨⟨by omega, by omega⟩, h⟩⟩
theorem tm_idAt (h1 : 0 ≤ p) (h2 : p < 6) : wX12_idAt p Q M ↔ Q (tz_pi (M.1 165) p) M := by
  unfold wX12_idAt
  rw [tz_n (x := 43 + 2 * p) (by omega) (by omega)]
  exact ⟨fun h => h.2, fun h => ⟨⟨by omega, by omega⟩, h⟩⟩
theorem tm_positionAt (h1 : 0 ≤ p) (h2 : p < 6) : wX12_positionAt p Q M ↔ Q (tz_pp (M.1 165) p) M := by
  unfold wX12_positionAt
  rw [tz_n (x := 43 + 2 * p + 1) (by omega) (by omega)]
  exact ⟨fun h => h.2, fun h => ⟨⟨by omega, by omega⟩, h⟩⟩
theorem tm_isSpoon (h1 : ts_w p = p) (h2 : 0 ≤ M.1 165 0) (h3 : M.1 165 0 ≤ 8) : wX12_isSpoon p Q M ↔ Q (tz_i (tz_in 0 p (M.1 165 0 - 1))) M := by
  unfold wX12_isSpoon
  rw [tm_isBetween h1 rfl (tz_n (by omega) (by omega))]
  simp only [tz_iw, tz_i01, true_and]
theorem tm_isCell (h1 : ts_w p1 = p1) (h2 : ts_w p2 = p2) : wX12_isCell p1 p2 Q M ↔ Q (tz_i (tz_in 0 p1 7 && tz_in 0 p2 7)) M := by
  unfold wX12_isCell
  rw [tm_isBetween h1 rfl rfl]
  simp only [tm_isBetween h2 (lo := 0) (up := 7) rfl rfl, tz_iw, tz_iz, wX12_isCell_B24, wX12_isCell_B25, tz_g0, tz_g1]
  cases tz_in 0 p1 7 <;> cases tz_in 0 p2 7 <;> simp [tz_i]
theorem tm_place (hL : tz_L (M.1 165)) (h1 : ts_w p = p) : wX12_place p Q M ↔ Q (tz_pl (M.1 165) p) M := by
  obtain ⟨e1, e3⟩ := hL
  simp only [wX12_place, forall_eq]
  refine tz_it2 (fun d x1 x2 M' => M' = M ∧ x1 = p ∧ 0 ≤ x2 ∧ x2 ≤ M.1 165 1 ∧ d = (6 - x2).toNat ∧ tz_find (M.1 165 1) (tz_pi (M.1 165)) p 6 0 = tz_find (M.1 165 1) (tz_pi (M.1 165)) p d x2) ?_ 6 ⟨rfl, rfl, by omega, by omega, rfl, rfl⟩
  rintro d x1 x2 M' ⟨rfl, rfl, h2, h3, h4, h5⟩
  simp only [wX12_place_L2, forall_eq]
  rw [tz_n (x := x2) (by omega) (by omega), tz_n (x := M'.1 165 1) (by omega) (by omega)]
  by_cases h6 : M'.1 165 1 ≤ x2
  · left
    intro k
    have h7 : tz_pl (M'.1 165) x1 = -1 := by
      unfold tz_pl; rw [h5]
      cases d with
      | zero => rfl
      | succ n => unfold tz_find; rw [if_pos h6]
    rw [h7]
    exact ⟨fun h => h.1 h6, fun h => ⟨fun _ => h, fun h8 => absurd h6 h8⟩⟩
  · have h8 := (e3 x2 h2 (by omega)).1
    cases d with
    | zero => omega
    | succ n =>
      by_cases h7 : tz_pi (M'.1 165) x2 = x1
      · left
        intro k
        have h9 : tz_pl (M'.1 165) x1 = x2 := by
          unfold tz_pl; rw [h5]; unfold tz_find; rw [if_neg h6, if_pos h7]
        rw [h9, tm_idAt h2 (by omega), h1, h8]
        exact ⟨fun h => (h.2 h6).2 h7, fun h => ⟨fun h10 => absurd h10 h6, fun _ => ⟨fun h10 => absurd h7 h10, fun _ => h⟩⟩⟩
      · right
        refine ⟨n, x1, x2 + 1, M', Nat.lt_succ_self n, ⟨rfl, rfl, by omega, by omega, by omega, ?_⟩, ?_⟩
        · rw [h5]; conv => lhs; unfold tz_find
          rw [if_neg h6, if_neg h7]
        · intro k
          rw [tm_idAt h2 (by omega), h1, h8]
          exact ⟨fun h => (h.2 h6).1 h7, fun h => ⟨fun h10 => absurd h10 h6, fun _ => ⟨fun _ => h, fun h10 => absurd h10 h7⟩⟩⟩
theorem tm_top (h1 : 0 ≤ M.1 165 3) (h2 : M.1 165 3 ≤ 5) : wX12_top Q M ↔ Q (tz_top (M.1 165)) M := by
  simp only [wX12_top, wX12_top_B29]
  rw [tz_n (x := M.1 165 3) (by omega) (by omega)]
  unfold tz_top
  by_cases h3 : M.1 165 3 = 0
  · rw [if_pos h3]; exact ⟨fun h => h.2 h3, fun h => ⟨fun h4 => absurd h3 h4, fun _ => h⟩⟩
  · rw [if_neg h3, tz_n (x := 55 + M.1 165 3 - 1) (by omega) (by omega)]
    unfold tz_mo
    rw [show 55 + (M.1 165 3 - 1) = 55 + M.1 165 3 - 1 by omega]
    exact ⟨fun h => (h.1 h3).2, fun h => ⟨fun _ => ⟨⟨by omega, by omega⟩, h⟩, fun h4 => absurd h4 h3⟩⟩
theorem tm_canMake (hW : tz_W B (M.1 165)) (h1 : 0 ≤ p) (h2 : p ≤ 4) : wX12_canMake p Q M ↔ Q (tz_i (tz_adm (M.1 165) p)) M := by
  have ht := tz_top_rng hW
  obtain ⟨_, _, _, e1, e2, _⟩ := hW
  simp only [wX12_canMake, wX12_canMake_B66, wX12_canMake_B65, wX12_canMake_B61, wX12_canMake_B38, wX12_canMake_B18, tm_top e1.1 e1.2, tz_g0, tz_g1]
  rw [tz_n (x := p) (by omega) (by omega), tz_n (x := M.1 165 3) (by omega) (by omega), tz_n (x := tz_top (M.1 165)) (by omega) (by omega), tz_n (x := M.1 165 4) (by omega) (by omega)]
  unfold tz_adm
  by_cases c1 : p = 0
  · rw [tz_y2 c1, if_pos c1]
    by_cases c2 : M.1 165 3 = 0
    · rw [tz_y2 c2, decide_eq_true c2]; exact Iff.rfl
    · rw [tz_x2 c2, decide_eq_false c2]; exact Iff.rfl
  · rw [tz_x2 c1, if_neg c1]
    by_cases c2 : M.1 165 3 = 0
    · rw [tz_y2 c2, if_pos c2]
      by_cases c3 : p = 4
      · rw [tz_y2 c3, decide_eq_true c3]; exact Iff.rfl
      · rw [tz_x2 c3, decide_eq_false c3]; exact Iff.rfl
    · rw [tz_x2 c2, if_neg c2]
      by_cases c3 : p ≤ tz_top (M.1 165)
      · have c4 : ¬ tz_top (M.1 165) < p := by omega
        rw [tz_y c3, decide_eq_false c4]; exact Iff.rfl
      · have c4 : tz_top (M.1 165) < p := by omega
        rw [tz_x c3, decide_eq_true c4]
        by_cases c5 : p = 1
        · have c7 : ¬ p ≠ 1 := fun h => h c5
          rw [tz_y2 c5, decide_eq_false c7]
          by_cases c6 : M.1 165 4 = 0
          · rw [tz_y2 c6, decide_eq_true c6]; exact Iff.rfl
          · rw [tz_x2 c6, decide_eq_false c6]; exact Iff.rfl
        · rw [tz_x2 c5, decide_eq_true (show p ≠ 1 from c5)]; exact Iff.rfl
theorem tm_mainPosition (hL : tz_L (M.1 165)) (h1 : ts_w (M.1 165 60) = M.1 165 60) (h2 : 0 ≤ tz_pl (M.1 165) (M.1 165 60)) : wX12_mainPosition Q M ↔ Q (tz_mp (M.1 165)) M := by
  have h3 := tz_pl_rng (w := M.1 165) (v := M.1 165 60) hL.1.2
  have h4 := hL.1
  unfold wX12_mainPosition
  rw [tm_place hL h1, tm_positionAt h2 (by omega)]
  exact Iff.rfl
theorem tm_changed (hL : tz_L (M.1 165)) (h1 : ts_w (M.1 165 60) = M.1 165 60) (h2 : 0 ≤ tz_pl (M.1 165) (M.1 165 60)) (e1 : -20 ≤ M.1 165 61 ∧ M.1 165 61 ≤ 20) : wX12_changed Q M ↔ Q (tz_ch (M.1 165)) M := by
  have h3 := tz_L_mp hL h2
  unfold wX12_changed
  rw [tm_mainPosition hL h1 h2]
  simp only [wX12_changed_B33, forall_eq]
  rw [tz_n (x := tz_mp (M.1 165) + M.1 165 61) (by omega) (by omega)]
  unfold tz_ch tz_cl
  by_cases c1 : tz_mp (M.1 165) + M.1 165 61 < 0
  · have c2 : ¬ 0 ≤ tz_mp (M.1 165) + M.1 165 61 := by omega
    rw [if_pos c1]; exact ⟨fun h => h.2 c2, fun h => ⟨fun h4 => absurd h4 c2, fun _ => h⟩⟩
  · have c2 : 0 ≤ tz_mp (M.1 165) + M.1 165 61 := by omega
    rw [if_neg c1]
    by_cases c3 : 99 < tz_mp (M.1 165) + M.1 165 61
    · have c4 : ¬ tz_mp (M.1 165) + M.1 165 61 ≤ 99 := by omega
      rw [if_pos c3]; exact ⟨fun h => (h.1 c2).2 c4, fun h => ⟨fun _ => ⟨fun h4 => absurd h4 c4, fun _ => h⟩, fun h4 => absurd c2 h4⟩⟩
    · have c4 : tz_mp (M.1 165) + M.1 165 61 ≤ 99 := by omega
      rw [if_neg c3]; exact ⟨fun h => (h.1 c2).1 c4, fun h => ⟨fun _ => ⟨fun _ => h, fun h4 => absurd c4 h4⟩, fun h4 => absurd c2 h4⟩⟩
theorem tm_likesMain (hL : tz_L (M.1 165)) (h1 : ts_w (M.1 165 60) = M.1 165 60) (h2 : 0 ≤ tz_pl (M.1 165) (M.1 165 60)) (h3 : 0 ≤ p) (h4 : p < 8) (h6 : 0 ≤ tz_a (M.1 165) p 1 ∧ tz_a (M.1 165) p 1 ≤ 99) : wX12_likesMain p Q M ↔ Q (tz_i (tz_lk (M.1 165) p)) M := by
  have h5 := tz_L_mp hL h2
  unfold wX12_likesMain
  rw [tm_mainPosition hL h1 h2]
  have h7 := tz_df_rng h5.1 h5.2 h6.1 h6.2
  rw [tm_spoon h3 (by omega) (by omega) (by omega), tm_difference h5.1 (by omega) h6.1 (by omega), tz_n (x := tz_df _ _) (by omega) (by omega)]
  unfold wX12_likesMain_B23 tz_lk
  by_cases c1 : tz_df (tz_mp (M.1 165)) (tz_a (M.1 165) p 1) ≤ 25
  · have c2 : ¬ 25 < tz_df (tz_mp (M.1 165)) (tz_a (M.1 165) p 1) := by omega
    rw [decide_eq_true c1]; exact ⟨fun h => (h.2 c2).2, fun h => ⟨fun h8 => absurd h8 c2, fun _ => ⟨Or.inr rfl, h⟩⟩⟩
  · have c2 : 25 < tz_df (tz_mp (M.1 165)) (tz_a (M.1 165) p 1) := by omega
    rw [decide_eq_false c1]; exact ⟨fun h => (h.1 c2).2, fun h => ⟨fun _ => ⟨Or.inl rfl, h⟩, fun h8 => absurd c2 h8⟩⟩
theorem tm_isFor0 (hL : tz_L (M.1 165)) (h1 : ts_w (M.1 165 60) = M.1 165 60) (h2 : 0 ≤ tz_pl (M.1 165) (M.1 165 60)) (h3 : 0 ≤ p) (h4 : p < 8) (h6 : 0 ≤ tz_a (M.1 165) p 1 ∧ tz_a (M.1 165) p 1 ≤ 99) (h7 : M.1 165 3 = 1) (h8 : tz_mo (M.1 165) 0 = 0) : wX12_isFor p Q M ↔ Q (tz_i (tz_for (M.1 165) p)) M := by
  have c0 : tz_top (M.1 165) = 0 := by unfold tz_top; rw [if_neg (by omega), h7]; exact h8
  unfold wX12_isFor
  rw [tm_top (by omega) (by omega), c0]
  unfold tz_for
  rw [if_pos c0, tm_likesMain hL h1 h2 h3 h4 h6]
  simp only [tz_n0, tz_iw, tz_i01, true_and, true_implies, not_true_eq_false, false_implies, and_true]
theorem tm_isFor (hB : B ≤ 1000000000) (hW : tz_W B (M.1 165)) (h0 : M.1 165 3 ≠ 0) (h3 : 0 ≤ p) (h4 : p < M.1 165 0) : wX12_isFor p Q M ↔ Q (tz_i (tz_for (M.1 165) p)) M := by
  have ht := tz_top_pos hW h0
  have hm := tz_main_of hW
  have e := hW
  obtain ⟨e0, _, _, e3, _, _, _, _, _, _, _, e1, _⟩ := e
  have h6 := e1 p h3 h4
  unfold wX12_isFor
  rw [tm_top e3.1 e3.2, tz_n (x := tz_top (M.1 165)) (by omega) (by omega)]
  unfold tz_for
  by_cases c0 : tz_top (M.1 165) = 0
  · obtain ⟨m1, m2⟩ := hm (by omega) (by omega)
    rw [if_pos c0, tm_likesMain (tz_L_of hB hW) (tz_W60 hB hW m1 m2) (tz_pl_main hW m1 m2).1 h3 (by omega) h6.2.1]
    simp only [c0, tz_iw, tz_i01, true_and, true_implies, not_true_eq_false, false_implies, and_true]
  · rw [if_neg c0]
    by_cases c1 : tz_top (M.1 165) = 1
    · obtain ⟨m1, m2⟩ := hm (by omega) (by omega)
      have h5 := tz_mp_rng hW m1 m2
      have h7 := tz_df_rng h5.1 h5.2 h6.2.1.1 h6.2.1.2
      have h8 : 0 ≤ tz_ch (M.1 165) ∧ tz_ch (M.1 165) ≤ 99 := tz_cl_rng
      have h9 := tz_df_rng h8.1 h8.2 h6.2.1.1 h6.2.1.2
      rw [if_pos c1, tm_changed (tz_L_of hB hW) (tz_W60 hB hW m1 m2) (tz_pl_main hW m1 m2).1 (tz_W61 hW), tm_spoon h3 (by omega) (by omega) (by omega), tm_difference h8.1 (by omega) h6.2.1.1 (by omega), tm_mainPosition (tz_L_of hB hW) (tz_W60 hB hW m1 m2) (tz_pl_main hW m1 m2).1, tm_spoon h3 (by omega) (by omega) (by omega), tm_difference h5.1 (by omega) h6.2.1.1 (by omega)]
      rw [tz_n (x := tz_df (tz_mp (M.1 165)) _) (by omega) (by omega), tz_n (x := tz_df (tz_ch (M.1 165)) _) (by omega) (by omega)]
      unfold wX12_isFor_B76
      by_cases c2 : tz_df (tz_ch (M.1 165)) (tz_a (M.1 165) p 1) < tz_df (tz_mp (M.1 165)) (tz_a (M.1 165) p 1)
      · have c3 : ¬ tz_df (tz_mp (M.1 165)) (tz_a (M.1 165) p 1) ≤ tz_df (tz_ch (M.1 165)) (tz_a (M.1 165) p 1) := by omega
        rw [decide_eq_true c2]
        exact ⟨fun h => (((h.2 c0).1 c1).2 c3).2, fun h => ⟨fun h10 => absurd h10 c0, fun _ => ⟨fun _ => ⟨fun h10 => absurd h10 c3, fun _ => ⟨Or.inr rfl, h⟩⟩, fun h10 => absurd c1 h10⟩⟩⟩
      · have c3 : tz_df (tz_mp (M.1 165)) (tz_a (M.1 165) p 1) ≤ tz_df (tz_ch (M.1 165)) (tz_a (M.1 165) p 1) := by omega
        rw [decide_eq_false c2]
        exact ⟨fun h => (((h.2 c0).1 c1).1 c3).2, fun h => ⟨fun h10 => absurd h10 c0, fun _ => ⟨fun _ => ⟨fun _ => ⟨Or.inl rfl, h⟩, fun h10 => absurd c3 h10⟩, fun h10 => absurd c1 h10⟩⟩⟩
    · rw [if_neg c1]
      by_cases c2 : tz_top (M.1 165) = 2
      · obtain ⟨m1, m2⟩ := hm (by omega) (by omega)
        rw [tz_x c0, tz_x c1, tz_y c2, if_pos c2, tm_likesMain (tz_L_of hB hW) (tz_W60 hB hW m1 m2) (tz_pl_main hW m1 m2).1 h3 (by omega) h6.2.1]
        simp only [tz_iw, tz_iz, wX12_isFor_B90, tz_g0, tz_g1]
        cases tz_lk (M.1 165) p
        · rw [tz_y2 rfl]; exact Iff.rfl
        · rw [tz_x2 (by decide)]; exact Iff.rfl
      · rw [tz_x c0, tz_x c1, tz_x c2, if_neg c2]
        simp only [wX12_isFor_B105, wX12_isFor_B121, tz_g0, tz_g1]
        by_cases c3 : tz_top (M.1 165) = 3
        · rw [tz_y c3, if_pos c3, tm_spoon h3 (by omega) (by omega) (by omega), tz_n (x := tz_a (M.1 165) p 3) (by omega) (by omega)]
          by_cases c4 : 0 < tz_a (M.1 165) p 3
          · rw [tz_x (by omega), decide_eq_true c4]; exact Iff.rfl
          · rw [tz_y (by omega), decide_eq_false c4]; exact Iff.rfl
        · rw [tz_x c3, if_neg c3, tm_spoon h3 (by omega) (by omega) (by omega)]
          have c5 : ts_w (tz_a (M.1 165) p 2) = tz_a (M.1 165) p 2 := tz_n (by omega) (by omega)
          simp only [c5]
          by_cases c4 : tz_a (M.1 165) p 2 < 3
          · rw [tz_x (by omega), decide_eq_true c4]; exact Iff.rfl
          · rw [tz_y (by omega), decide_eq_false c4]; exact Iff.rfl
end TZM
