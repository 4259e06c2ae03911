/-! ===== the class: what a vote is made of ===== -/
/-- the speeches forgotten -/
def tz_fz (b : Nat) (M : ts_M) : ts_M := (fun a j => if a = b + 5 ∧ 0 ≤ j ∧ j < 8 then 0 else M.1 a j, M.2)
section TZH
variable {p p1 p2 p3 lo up B v : Int} {Q : Int → ts_M → Prop} {Qv : ts_M → Prop} {M M' M'' : ts_M} {b : Nat} {w w2 x wa : Int → Int}
theorem tz_fz_ne {a : Nat} (h1 : a ≠ b + 5) : (tz_fz b M).1 a = M.1 a := by funext j; unfold tz_fz; dsimp only; rw [if_neg (by omega)]
theorem tz_fz_at {s : Int} (h1 : 0 ≤ s) (h2 : s < 8) : (tz_fz b M).1 (b + 5) s = 0 := by unfold tz_fz; dsimp only; rw [if_pos ⟨rfl, h1, h2⟩]
theorem tc_forget (hQ : Qv (tz_fz b M)) : wX8_forgetSpeeches b Qv M := by
  simp only [wX8_forgetSpeeches, forall_eq]
  refine (tz_it1 (R := Qv (tz_fz b M)) (fun d x1 M' => 0 ≤ x1 ∧ x1 ≤ 8 ∧ d = (8 - x1).toNat ∧ M' = (fun a j => if a = b + 5 ∧ 0 ≤ j ∧ j < x1 then 0 else M.1 a j, M.2)) ?_ 8 ⟨by omega, by omega, rfl, ?_⟩).mpr hQ
  · rintro d x1 M' ⟨h1, h2, h3, rfl⟩
    simp only [wX8_forgetSpeeches_L2, forall_eq]
    rw [tz_n (x := x1) (by omega) (by omega)]
    by_cases c1 : 8 ≤ x1
    · left
      intro k
      have c2 : x1 = 8 := by omega
      subst c2
      exact tz_y c1
    · right
      refine ⟨(8 - (x1 + 1)).toNat, x1 + 1, _, by omega, ⟨by omega, by omega, rfl, rfl⟩, ?_⟩
      intro k
      rw [tz_x c1, tz_p ⟨h1, by omega⟩]
      have e1 : ts_si ((fun a j => if a = b + 5 ∧ 0 ≤ j ∧ j < x1 then 0 else M.1 a j, M.2) : ts_M) (b + 5) x1 0 = (fun a j => if a = b + 5 ∧ 0 ≤ j ∧ j < x1 + 1 then 0 else M.1 a j, M.2) := by
        unfold ts_si
        congr 1
        funext a j
        dsimp only
        by_cases b1 : a = b + 5 ∧ j = x1
        · rw [if_pos b1, if_pos (by omega)]
        · rw [if_neg b1]
          by_cases b2 : a = b + 5 ∧ 0 ≤ j ∧ j < x1
          · rw [if_pos b2, if_pos (by omega)]
          · rw [if_neg b2, if_neg (by omega)]
      rw [e1]
  · obtain ⟨f, g⟩ := M
    congr 1
    funext a j
    rw [if_neg (by omega)]
theorem tc_anew (h1 : ts_w (M.1 (b + 9) 1) = M.1 (b + 9) 1) (hn : M.1 (b + 9) 1 ≠ 0 → Qv M) (hz : M.1 (b + 9) 1 = 0 → Qv (tz_fz b (ts_si M (b + 9) 4 0))) : wX9_startAnewIfTableIsEmpty b Qv M := by
  simp only [wX9_startAnewIfTableIsEmpty, wX9_startAnewIfTableIsEmpty_B25, forall_eq, h1]
  exact ⟨fun h => hn h, fun h => tc_forget (hz h)⟩
theorem to_emp_o {j : Int} (h1 : ¬ ((55 ≤ j ∧ j < 62) ∨ j = 3 ∨ j = 4 ∨ (14 ≤ j ∧ j < 14 + 4 * w 0 ∧ (j - 14) % 4 = 0))) : to_emp w j = w j := if_neg h1
theorem to_emp_z {j : Int} (h1 : (55 ≤ j ∧ j < 62) ∨ j = 3 ∨ j = 4 ∨ (14 ≤ j ∧ j < 14 + 4 * w 0 ∧ (j - 14) % 4 = 0)) : to_emp w j = 0 := if_pos h1
/-- an empty table: the State stands for the row with all of the table and the speeches cleared -/
theorem tc_finish0 (h1 : tz_P1 b M wa) (h0 : 0 ≤ x 0 ∧ x 0 ≤ 8) (r0 : x 0 = wa 0) (r9 : x 9 = wa 9) (r10 : x 10 = wa 10) (rs : ∀ s k : Int, 0 ≤ s → s < wa 0 → 0 ≤ k → k ≤ 2 → tz_a x s k = tz_a wa s k) (h2 : tz_P2 b M x) (h21 : x 1 ≤ 6) (h4 : tz_P4 b M x) (h5 : tz_P5 b M x) (h3 : M.1 (b + 9) 1 = 0) : tz_S b (tz_fz b (ts_si M (b + 9) 4 0)) (to_emp x) := by
  have g : ∀ c : Nat, c ≠ 5 → c ≠ 9 → (tz_fz b (ts_si M (b + 9) 4 0)).1 (b + c) = M.1 (b + c) := fun c h6 h7 => by rw [tz_fz_ne (by omega), ts_si_ne (by omega)]
  refine tz_S_of ?_ (tz_P2_c h2 h21 (fun c h6 h7 => g c (by omega) (by omega)) (fun j h => to_emp_o (by omega))) ?_ (tz_P4_c h4 rfl (fun j h h' => to_emp_o (by omega))) (tz_P5_c h5 (g 0 (by omega) (by omega)) (g 13 (by omega) (by omega)) (fun j h => to_emp_o (by omega)))
  · obtain ⟨a1, a2, a3, a4⟩ := h1
    unfold tz_P1
    rw [to_emp_o (j := 0) (by omega), to_emp_o (j := 9) (by omega), to_emp_o (j := 10) (by omega), g 1 (by omega) (by omega), g 2 (by omega) (by omega), g 3 (by omega) (by omega), g 4 (by omega) (by omega), r9, r10]
    refine ⟨by rw [r0]; exact a1, fun s h6 h7 => ?_, a3, a4⟩
    have h8 := a2 s h6 (by omega)
    rw [h8.1, h8.2.1, h8.2.2.1, tz_fz_at h6 (by omega), ← rs s 0 h6 (by omega) (by omega) (by omega), ← rs s 1 h6 (by omega) (by omega) (by omega), ← rs s 2 h6 (by omega) (by omega) (by omega)]
    unfold tz_a
    rw [to_emp_o (j := 11 + 4 * s + 0) (by omega), to_emp_o (j := 11 + 4 * s + 1) (by omega), to_emp_o (j := 11 + 4 * s + 2) (by omega), to_emp_z (j := 11 + 4 * s + 3) (by omega)]
    exact ⟨rfl, rfl, rfl, rfl⟩
  · unfold tz_P3
    rw [to_emp_z (j := 3) (by omega), to_emp_z (j := 4) (by omega)]
    refine ⟨?_, fun h => absurd h (by omega), fun k h6 h7 => by omega, ?_, fun k h6 h7 => by omega⟩
    · rw [tz_fz_ne (by omega), tz_si_k (by omega)]; exact h3
    · rw [tz_fz_ne (by omega), tz_si_a]
theorem to_off_pi {q i : Int} (h0 : 0 ≤ i) (h1 : i < w 1 - 1) : tz_pi (to_off w q) i = if q ≤ i then tz_pi w (i + 1) else tz_pi w i := by
  have n1 : ¬ (43 + 2 * i = 1) := by omega
  unfold tz_pi to_off
  rw [if_neg n1]
  by_cases c1 : q ≤ i
  · have a1 : 43 + 2 * q ≤ 43 + 2 * i ∧ 43 + 2 * i < 43 + 2 * (w 1 - 1) := by omega
    rw [if_pos a1, if_pos c1, show 43 + 2 * i + 2 = 43 + 2 * (i + 1) by omega]
  · have a1 : ¬ (43 + 2 * q ≤ 43 + 2 * i ∧ 43 + 2 * i < 43 + 2 * (w 1 - 1)) := by omega
    have a2 : ¬ (43 + 2 * i = 43 + 2 * (w 1 - 1) ∨ 43 + 2 * i = 43 + 2 * (w 1 - 1) + 1) := by omega
    rw [if_neg a1, if_neg a2, if_neg c1]
theorem to_off_pp {q i : Int} (h0 : 0 ≤ i) (h1 : i < w 1 - 1) : tz_pp (to_off w q) i = if q ≤ i then tz_pp w (i + 1) else tz_pp w i := by
  have n1 : ¬ (43 + 2 * i + 1 = 1) := by omega
  unfold tz_pp to_off
  rw [if_neg n1]
  by_cases c1 : q ≤ i
  · have a1 : 43 + 2 * q ≤ 43 + 2 * i + 1 ∧ 43 + 2 * i + 1 < 43 + 2 * (w 1 - 1) := by omega
    rw [if_pos a1, if_pos c1, show 43 + 2 * i + 1 + 2 = 43 + 2 * (i + 1) + 1 by omega]
  · have a1 : ¬ (43 + 2 * q ≤ 43 + 2 * i + 1 ∧ 43 + 2 * i + 1 < 43 + 2 * (w 1 - 1)) := by omega
    have a2 : ¬ (43 + 2 * i + 1 = 43 + 2 * (w 1 - 1) ∨ 43 + 2 * i + 1 = 43 + 2 * (w 1 - 1) + 1) := by omega
    rw [if_neg a1, if_neg a2, if_neg c1]
/-- a proposal leaves the list -/
theorem tc_remove (hP : tz_P2 b M w) (hL : tz_L w) (h1 : 0 ≤ tz_pl w (ts_w v)) (hQ : ∀ M' : ts_M, (∀ a : Nat, a ≠ b + 6 → a ≠ b + 7 → a ≠ b + 8 → M'.1 a = M.1 a) → M'.2 = M.2 → tz_P2 b M' (to_off w (tz_pl w (ts_w v))) → Qv M') : wX4_remove b v Qv M := by
  have hP' := hP
  obtain ⟨a1, a2, a3⟩ := hP'
  have h2 := tz_pl_rng (w := w) (v := ts_w v) hL.1.2
  have e1 := hL.1
  simp only [wX4_remove, forall_eq]
  rw [tc_placeOf a1 hL (fun i h3 h4 => (a3 i h3 h4).1)]
  generalize hq : tz_pl w (ts_w v) = q at h1 h2 hQ ⊢
  have hq2 : q < w 1 := by omega
  rw [tz_n (x := q) (by omega) (by omega), tz_x2 (by omega)]
  refine tz_ex1 (fun d x1 m => q + 1 ≤ x1 ∧ x1 ≤ w 1 ∧ d = (w 1 - x1).toNat ∧ (∀ a : Nat, a ≠ b + 7 → a ≠ b + 8 → m.1 a = M.1 a) ∧ m.2 = M.2 ∧ ∀ i : Int, 0 ≤ i → i < w 1 → m.1 (b + 7) i = (if q ≤ i ∧ i < x1 - 1 then tz_pi w (i + 1) else tz_pi w i) ∧ m.1 (b + 8) i = (if q ≤ i ∧ i < x1 - 1 then tz_pp w (i + 1) else tz_pp w i)) (w 1 - (q + 1)).toNat ⟨Int.le_refl _, by omega, rfl, fun _ _ _ => rfl, rfl, fun i h3 h4 => ?_⟩ ?_
  · rw [if_neg (by omega), if_neg (by omega)]; exact a3 i h3 h4
  · rintro k d x1 m ⟨i1, i2, i3, i4, i5, i6⟩ hk
    have c6 : m.1 (b + 6) 2 = w 1 := by rw [i4 (b + 6) (by omega) (by omega)]; exact a1
    simp only [wX4_remove_L16, forall_eq, c6]
    rw [tz_n (x := w 1) (by omega) (by omega), tz_n (x := x1) (by omega) (by omega), tz_n (x := x1 - 1) (by omega) (by omega)]
    by_cases c1 : w 1 ≤ x1
    · rw [tz_y c1]
      have c2 : x1 = w 1 := by omega
      refine hQ _ (fun a f1 f2 f3 => ?_) (by rw [tz_si2]; exact i5) ?_
      · rw [ts_si_ne f1]; exact i4 a f2 f3
      · have o1 : to_off w q 1 = w 1 - 1 := if_pos rfl
        have o2 : to_off w q 2 = w 2 := to_off_get (by omega) (by omega) h1 e1.2 (by omega)
        unfold tz_P2
        rw [o1, o2]
        refine ⟨tz_si_a, ?_, fun i f1 f2 => ?_⟩
        · rw [tz_si_k (by omega), i4 (b + 6) (by omega) (by omega)]; exact a2
        · have f3 := i6 i f1 (by omega)
          rw [ts_si_ne (by omega), ts_si_ne (by omega), f3.1, f3.2, to_off_pi f1 f2, to_off_pp f1 f2]
          by_cases c3 : q ≤ i
          · have c4 : q ≤ i ∧ i < x1 - 1 := ⟨c3, by omega⟩
            rw [if_pos c4, if_pos c4, if_pos c3, if_pos c3]
            exact ⟨rfl, rfl⟩
          · have c4 : ¬ (q ≤ i ∧ i < x1 - 1) := fun h => c3 h.1
            rw [if_neg c4, if_neg c4, if_neg c3, if_neg c3]
            exact ⟨rfl, rfl⟩
    · rw [tz_x c1, tz_p ⟨by omega, by omega⟩, tz_p ⟨by omega, by omega⟩, tz_p ⟨by omega, by omega⟩, tz_p ⟨by omega, by omega⟩]
      have j1 := i6 x1 (by omega) (by omega)
      rw [if_neg (by omega), if_neg (by omega)] at j1
      refine hk (w 1 - (x1 + 1)).toNat (x1 + 1) _ (by omega) ⟨by omega, by omega, rfl, fun a f1 f2 => ?_, by rw [tz_si2, tz_si2]; exact i5, fun i f1 f2 => ?_⟩
      · rw [ts_si_ne f2, ts_si_ne f1]; exact i4 a f1 f2
      · have f3 := i6 i f1 f2
        constructor
        · rw [ts_si_ne (by omega)]
          by_cases c3 : i = x1 - 1
          · subst c3
            rw [tz_si_a, if_pos (by omega), j1.1]
            congr 1; omega
          · rw [tz_si_k c3, f3.1]
            by_cases c4 : q ≤ i ∧ i < x1 - 1
            · rw [if_pos c4, if_pos (by omega)]
            · rw [if_neg c4, if_neg (by omega)]
        · by_cases c3 : i = x1 - 1
          · subst c3
            rw [tz_si_a, if_pos (by omega), ts_si_ne (by omega), j1.2]
            congr 1; omega
          · rw [tz_si_k c3, ts_si_ne (by omega), f3.2]
            by_cases c4 : q ≤ i ∧ i < x1 - 1
            · rw [if_pos c4, if_pos (by omega)]
            · rw [if_neg c4, if_neg (by omega)]
theorem tc_setPosition (hP : tz_P2 b M w) (hL : tz_L w) (h1 : 0 ≤ tz_pl w (ts_w v)) (hQ : ∀ M' : ts_M, (∀ a : Nat, a ≠ b + 8 → M'.1 a = M.1 a) → M'.2 = M.2 → tz_P2 b M' (ts_fu w (43 + 2 * tz_pl w (ts_w v) + 1) p) → Qv M') : wX4_setPosition b v p Qv M := by
  have hP' := hP
  obtain ⟨a1, a2, a3⟩ := hP'
  have h2 := tz_pl_rng (w := w) (v := ts_w v) hL.1.2
  have e1 := hL.1
  simp only [wX4_setPosition, wX4_setPosition_B18, forall_eq]
  rw [tc_placeOf a1 hL (fun i h3 h4 => (a3 i h3 h4).1)]
  generalize hq : tz_pl w (ts_w v) = q at h1 h2 hQ ⊢
  rw [tz_n (x := q) (by omega) (by omega), tz_x (by omega), tz_p ⟨h1, by omega⟩]
  refine hQ _ (fun a f1 => ts_si_ne f1) rfl ?_
  unfold tz_P2
  rw [tz_fu_n (by omega), tz_fu_n (by omega)]
  refine ⟨by rw [ts_si_ne (by omega)]; exact a1, by rw [ts_si_ne (by omega)]; exact a2, fun i f1 f2 => ?_⟩
  have f3 := a3 i f1 f2
  unfold tz_pi tz_pp at f3 ⊢
  rw [ts_si_ne (by omega), tz_fu_n (by omega)]
  refine ⟨f3.1, ?_⟩
  by_cases c1 : i = q
  · subst c1; rw [tz_si_a, tz_fu_e]
  · rw [tz_si_k c1, tz_fu_n (by omega)]; exact f3.2
theorem tc_moveToEnd (hP : tz_P2 b M w) (hL : tz_L w) (h1 : 0 ≤ tz_pl w (ts_w v)) (hQ : ∀ M' : ts_M, (∀ a : Nat, a ≠ b + 6 → a ≠ b + 7 → a ≠ b + 8 → M'.1 a = M.1 a) → M'.2 = M.2 → tz_P2 b M' (to_lists (to_off w (tz_pl w (ts_w v))) v (tz_pp w (tz_pl w (ts_w v)))) → Qv M') : wX4_moveToEnd b v Qv M := by
  have hP' := hP
  obtain ⟨a1, a2, a3⟩ := hP'
  have h2 := tz_pl_rng (w := w) (v := ts_w v) hL.1.2
  have e1 := hL.1
  have o1 : to_off w (tz_pl w (ts_w v)) 1 = w 1 - 1 := if_pos rfl
  simp only [wX4_moveToEnd, wX4_moveToEnd_B26, forall_eq]
  rw [tc_placeOf a1 hL (fun i h3 h4 => (a3 i h3 h4).1), tc_positionOf a1 hL (fun i h3 h4 => (a3 i h3 h4).1) (fun i h3 h4 => (a3 i h3 h4).2), tz_n (x := tz_pl w (ts_w v)) (by omega) (by omega), tz_x (by omega)]
  have e2 : tz_po w (ts_w v) = tz_pp w (tz_pl w (ts_w v)) := if_neg (by omega)
  rw [e2]
  refine tc_remove hP hL h1 (fun m f1 f2 f3 => ?_)
  refine tc_append f3 (by rw [o1]; omega) (by rw [o1]; omega) (fun m2 g1 g2 g3 => hQ m2 (fun a k1 k2 k3 => (g1 a k1 k2 k3).trans (f1 a k1 k2 k3)) (g2.trans f2) g3)
/-- how a spoon votes on a main motion -/
theorem tc_saysYes0 (s0 : M.1 (b + 1) 4 = w 0) (e0 : 0 ≤ w 0 ∧ w 0 ≤ 8) (h1 : 0 ≤ p) (h2 : p < w 0) (hs : M.1 (b + 3) p = tz_a w p 1) (h5 : 0 ≤ tz_a w p 1 ∧ tz_a w p 1 ≤ 99) (s7 : M.1 (b + 9) 1 = w 3) (e3 : 0 ≤ w 3 ∧ w 3 ≤ 5) (s11 : ∀ k : Int, 0 ≤ k → k < w 3 → M.1 (b + 10) k = tz_mo w k) (ht : tz_top w = 0) (h3 : 0 ≤ tz_mp w ∧ tz_mp w ≤ 99) : wX9_saysYes b p (tz_mp w) Q M ↔ Q (tz_i (tz_for w p)) M := by
  have hd := tz_df_rng h3.1 h3.2 h5.1 h5.2
  have hin : tz_in 0 p (w 0 - 1) = true := tz_in_t.mpr ⟨h1, by omega⟩
  unfold wX9_saysYes
  rw [tc_has s0 (tz_n (by omega) (by omega)) e0, hin, tz_i1]
  simp only [tz_n1, forall_eq, tz_n (x := p) (by omega) (by omega), hs]
  rw [tc_abs h3.1 (by omega) h5.1 (by omega), tc_topRank s7 e3 s11, ht, tz_n (x := tz_df (tz_mp w) (tz_a w p 1)) (by omega) (by omega), tz_x2 (by decide), tz_p ⟨h1, by omega⟩, tz_y tz_n0]
  unfold tz_for tz_lk
  rw [if_pos ht]
  unfold wX9_saysYes_B79
  by_cases c1 : tz_df (tz_mp w) (tz_a w p 1) ≤ 25
  · rw [tz_x (by omega), decide_eq_true c1, tz_g1]; exact Iff.rfl
  · rw [tz_y (by omega), decide_eq_false c1, tz_g0]; exact Iff.rfl
end TZH
