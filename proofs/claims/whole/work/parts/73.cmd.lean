/-! ===== the class spills; the twelve commands ===== -/
section TZL
variable {B : Int} {Q : Int → ts_M → Prop} {Qv : ts_M → Prop} {M M' M'' : ts_M} {b : Nat} {w x : Int → Int} {r c p1 p2 p3 : Int}
theorem tz_pop_we (hP : tz_P4 b M w) (h4 : tz_W4 w) : tz_sum (fun k => tz_i (tz_bit (M.2.1 (b + 11) 0) k.toNat)) 64 = tz_sum (tz_we w) 64 := tz_sum_eq (fun i h1 h2 => by
  have h3 := hP i.toNat (by omega)
  have h5 := h4 i h1 (by omega)
  rw [Int.toNat_of_nonneg h1] at h3
  rw [h3]
  by_cases h6 : tz_we w i = 1
  · rw [decide_eq_true h6, h6]; rfl
  · rw [decide_eq_false h6]
    have : tz_we w i = 0 := by omega
    rw [this]; rfl)
theorem tz_lg_bit (hP : tz_P4 b M w) : tz_mx (fun k => tz_sz (tz_cp (tz_bit (M.2.1 (b + 11) 0)) k)) 64 = tz_lg w := by
  have gen : ∀ n : Nat, n ≤ 64 → tz_mx (fun k => tz_sz (tz_cp (tz_bit (M.2.1 (b + 11) 0)) k)) n = tz_mx (tz_pz w) n := by
    intro n
    induction n with
    | zero => intro _; rfl
    | succ n ihn =>
      intro hn
      have e1 : tz_sz (tz_cp (tz_bit (M.2.1 (b + 11) 0)) n) = tz_pz w n := tz_sz_eq (fun k _ => tz_cp_congr (tz_P4_wb hP) (by omega))
      unfold tz_mx
      rw [ihn (by omega)]
      rw [e1]
  exact gen 64 (Nat.le_refl _)
theorem tz_lg_rng : 0 ≤ tz_lg w ∧ tz_lg w ≤ 64 := by
  have gen : ∀ n : Nat, 0 ≤ tz_mx (tz_pz w) n ∧ tz_mx (tz_pz w) n ≤ 64 := by
    intro n
    induction n with
    | zero => exact ⟨Int.le_refl 0, by show (0 : Int) ≤ 64; omega⟩
    | succ n ihn =>
      have h5 : 0 ≤ tz_pz w n ∧ tz_pz w n ≤ 64 := tz_sz_rng
      unfold tz_mx
      split
      · exact h5
      · exact ihn
  exact gen 64
theorem tc_spillTea (hr : 0 ≤ r ∧ r ≤ 7) (hc : 0 ≤ c ∧ c ≤ 7) (hn : 1 ≤ p3 ∧ p3 ≤ 30) (hW : tz_W B w) (hS : tz_S b M w) (hQ : ∀ M' : ts_M, tz_F b M M' → tz_S b M' (to_spill w r c p3) → Q (tz_sum (tz_we (to_spill w r c p3)) 64) M') : wX9_spillTea b r c p3 Q M := by
  have h4 := tz_W_4 hW
  have hW' := hW
  obtain ⟨e0, e1, _, e3, _⟩ := hW'
  unfold wX9_spillTea
  refine tc_spread hr hc hn h4 (tz_S_4 hS) (fun m1 f1 f2 => ?_)
  unfold to_spill at hQ
  have xo : ∀ j : Int, ¬ (82 ≤ j ∧ j < 146) → to_wns w r c p3.toNat j = w j := fun j h => to_wns_o hr hc h
  have w4 := to_wns_W4 hr hc h4 p3.toNat
  generalize to_wns w r c p3.toNat = x at *
  have g : ∀ a : Nat, m1.1 a = M.1 a := fun a => by rw [f1.1]
  have P1x : tz_P1 b m1 x := tz_P1_c (tz_S_1 hS) e0.2 (fun c _ _ => g _) (fun j h => xo j (by omega))
  have P2x : tz_P2 b m1 x := tz_P2_c (tz_S_2 hS) e1.2 (fun c _ _ => g _) (fun j h => xo j (by omega))
  have P3x : tz_P3 b m1 x := tz_P3_c (tz_S_3 hS) e3.2 (fun c _ _ => g _) (fun j h => xo j (by omega))
  have P5x : tz_P5 b m1 x := tz_P5_c (tz_S_5 hS) (g _) (g _) (fun j h => xo j (by omega))
  have hF1 : tz_F b M m1 := ⟨fun a h => ⟨g a, f1.2.2 a (by omega)⟩, f1.2.1⟩
  refine tc_largest ?_
  rw [tz_lg_bit f2]
  have hz := tz_lg_rng (w := x)
  rw [tz_n (x := tz_lg x) (by omega) (by omega)]
  unfold wX9_spillTea_B30
  by_cases c1 : tz_lg x < 20
  · rw [tz_y c1, tz_pop, tz_pop_we f2 w4]
    rw [if_pos c1] at hQ
    exact hQ m1 hF1 (tz_S_of P1x P2x P3x f2 P5x)
  · rw [tz_x c1]
    rw [if_neg c1] at hQ
    unfold wX9_endSitting wX10_clear
    simp only [forall_eq]
    have x0 := xo 0 (by omega)
    have x1 := xo 1 (by omega)
    have r6 : (ts_si m1 (b + 9) 1 0).1 b 6 = x 5 := by rw [ts_si_ne (by omega)]; exact P5x.2.2.1
    rw [r6]
    have d91 : (ts_si (ts_si m1 (b + 9) 1 0) b 6 (x 5 + 1)).1 (b + 9) 1 = 0 := by rw [ts_si_ne (by omega), tz_si_a]
    refine tc_anew (by rw [d91]; rfl) (fun hn => absurd d91 hn) (fun _ => ?_)
    have o : ∀ j : Int, j ≠ 5 → ts_fu x 5 (x 5 + 1) j = x j := fun j h => tz_fu_n h
    have fin : tz_S b (tz_fz b (ts_si (ts_si (ts_si m1 (b + 9) 1 0) b 6 (x 5 + 1)) (b + 9) 4 0)) (to_adj x) := by
      unfold to_adj
      refine tc_finish0 (wa := x) (tz_P1_c P1x (by rw [x0]; exact e0.2) (fun c h1 h2 => by rw [ts_si_ne (by omega), ts_si_ne (by omega)]) (fun _ _ => rfl)) (by rw [o 0 (by omega), x0]; exact e0) (o 0 (by omega)) (o 9 (by omega)) (o 10 (by omega)) (fun s k h1 h2 h3 h4 => o _ (by omega)) (tz_P2_c P2x (by rw [x1]; exact e1.2) (fun c h1 h2 => by rw [ts_si_ne (by omega), ts_si_ne (by omega)]) (fun j h => o j (by omega))) (by rw [o 1 (by omega), x1]; exact e1.2) (tz_P4_c f2 rfl (fun j h h' => o j (by omega))) ?_ d91
      obtain ⟨p1, p2, p3, p4, p5⟩ := P5x
      unfold tz_P5
      rw [tz_fu_e, o 6 (by omega), o 7 (by omega), o 8 (by omega)]
      refine ⟨fun k h1 h2 => ?_, ?_, tz_si_a, ?_, ?_⟩
      · rw [ts_si_ne (by omega), ts_si_ne (by omega), p1 k h1 h2]; exact (o (62 + k) (by omega)).symm
      · rw [tz_si_k (by omega), ts_si_ne (by omega)]; exact p2
      · rw [tz_si_k (by omega), ts_si_ne (by omega)]; exact p4
      · rw [tz_si_k (by omega), ts_si_ne (by omega)]; exact p5
    have w4a : tz_W4 (to_adj x) := fun k h1 h2 => by
      rw [to_adj_we (by rw [x0]; exact e0) h1]; exact w4 k h1 h2
    rw [tz_pop, tz_pop_we (tz_S_4 fin) w4a]
    exact hQ _ (tz_fz_F (tz_F_si (by omega) (tz_F_si0 (tz_F_si (by omega) hF1)))) fin
theorem tz_k_spill (hr : 0 ≤ r ∧ r ≤ 7) (hc : 0 ≤ c ∧ c ≤ 7) (hW : tz_W B w) : tz_W (B + 9) (to_spill w r c p3) := by
  have h4 := tz_W_4 hW
  unfold to_spill
  have xo : ∀ j : Int, ¬ (82 ≤ j ∧ j < 146) → to_wns w r c p3.toNat j = w j := fun j h => to_wns_o hr hc h
  have w4 := to_wns_W4 hr hc h4 p3.toNat
  generalize to_wns w r c p3.toNat = x at *
  have hx : tz_W B x := tz_W_of (tz_W1_c (tz_W_1 hW) (Int.le_refl _) (fun j h => xo j (by omega))) (tz_W2_c (tz_W_2 hW) (Int.le_refl _) (fun j h => xo j (by omega))) (tz_W3_c (tz_W_3 hW) (fun j h => xo j (by omega))) (tz_WM_c (tz_W_M hW) (tz_W_2 hW).1.2 (fun j h => xo j (by omega))) w4 (tz_W5_c (tz_W_5 hW) (Int.le_refl _) (fun j h => xo j (by omega)))
  split
  · exact tz_W_mono hx (by omega)
  · unfold to_adj
    have o : ∀ j : Int, j ≠ 5 → ts_fu x 5 (x 5 + 1) j = x j := fun j h => tz_fu_n h
    refine tz_W_mono (tz_k_emp (B := B + 1) (tz_W1_c (tz_W_1 hx) (by omega) (fun j h => o j (by omega))) (tz_W2_c (tz_W_2 hx) (by omega) (fun j h => o j (by omega))) (tz_W4_c (tz_W_4 hx) (fun j h h' => o j (by omega))) ?_) (by omega)
    obtain ⟨d1, d2, d3, d4⟩ := tz_W_5 hx
    unfold tz_W5
    rw [tz_fu_e, o 6 (by omega), o 7 (by omega), o 8 (by omega)]
    omega
theorem tz_k_mop {s : Nat} (hW : tz_W B w) : tz_W (B + 9) (to_mop w s) := by
  have o : ∀ j : Int, ¬ (82 ≤ j ∧ j < 146) → to_mop w s j = w j := fun j h => to_mop_o h
  refine tz_W_of (tz_W1_c (tz_W_1 hW) (by omega) (fun j h => o j (by omega))) (tz_W2_c (tz_W_2 hW) (by omega) (fun j h => o j (by omega))) (tz_W3_c (tz_W_3 hW) (fun j h => o j (by omega))) (tz_WM_c (tz_W_M hW) (tz_W_2 hW).1.2 (fun j h => o j (by omega))) (fun k h1 h2 => ?_) (tz_W5_c (tz_W_5 hW) (by omega) (fun j h => o j (by omega)))
  have h3 := tz_W_4 hW k h1 h2
  unfold tz_we to_mop at *
  split
  · omega
  · exact h3
end TZL
/-- why a command is refused, and what it makes of the row, and answers -/
def tz_not (w : Int → Int) (c p1 p2 p3 : Int) : Int := if c = 0 then tz_r0 w p1 p2 else if c = 1 then tz_r1 w p1 else if c = 2 then tz_r2 w p1 else if c = 3 then tz_r3 w p1 else if c = 4 then tz_rm w 2 else if c = 5 then tz_rm w 3 else if c = 6 then tz_rm w 4 else if c = 7 then tz_r7 w p1 else if c = 8 then tz_r8 w else if c = 9 then tz_r9 p1 p2 p3 else if c = 10 then tz_r10 w p1 p2 else tz_r11 w p1 p2
noncomputable def tz_do (w : Int → Int) (c p1 p2 p3 : Int) : Int → Int := if c = 0 then to_spoon w p1 p2 else if c = 1 then to_prop w p1 else if c = 2 then to_make (ts_fu w 60 p1) 0 else if c = 3 then to_make (ts_fu w 61 p1) 1 else if c = 4 then to_make w 2 else if c = 5 then to_make w 3 else if c = 6 then to_make w 4 else if c = 7 then to_speak w p1 else if c = 8 then to_votes w else if c = 9 then to_spill w p1 p2 p3 else if c = 10 then to_mop w (8 * p1 + p2).toNat else to_sugar w p1 p2
noncomputable def tz_res (w : Int → Int) (c p1 p2 p3 : Int) : Int := if c = 0 then w 0 else if c = 1 then w 2 else if c ≤ 6 then w 3 + 1 else if c = 7 then tz_a w p1 3 + 1 else if c = 8 then tz_i (tz_ado w) else if c = 9 then tz_sum (tz_we (to_spill w p1 p2 p3)) 64 else if c = 10 then tz_pz w (8 * p1 + p2).toNat else tz_a w p1 2 + p2
section TZO
variable {B : Int} {Q : Int → ts_M → Prop} {Qv : ts_M → Prop} {M M' M'' : ts_M} {b : Nat} {w x : Int → Int} {c p1 p2 p3 : Int}
theorem tz_not_rng : 0 ≤ tz_not w c p1 p2 p3 ∧ tz_not w c p1 p2 p3 ≤ 5 := by
  unfold tz_not
  split; exact tz_r0_rng
  split; exact tz_r1_rng
  split; exact tz_r2_rng
  split; exact tz_r3_rng
  split; exact tz_rm_rng
  split; exact tz_rm_rng
  split; exact tz_rm_rng
  split; exact tz_r7_rng
  split; exact tz_r8_rng
  split; exact tz_r9_rng
  split; exact tz_r10_rng
  exact tz_r11_rng
theorem tc_refusal (hW : tz_W B w) (hS : tz_S b M w) (hB : B ≤ 900000000) (hc : 0 ≤ c ∧ c ≤ 11) (h1 : ts_w p1 = p1) (h2 : ts_w p2 = p2) (h3 : ts_w p3 = p3) : wX9_refusalOf b c p1 p2 p3 Q M ↔ Q (tz_not w c p1 p2 p3) M := by
  have hB' : B ≤ 1000000000 := by omega
  have cs : c = 0 ∨ c = 1 ∨ c = 2 ∨ c = 3 ∨ c = 4 ∨ c = 5 ∨ c = 6 ∨ c = 7 ∨ c = 8 ∨ c = 9 ∨ c = 10 ∨ c = 11 := by omega
  rcases cs with h | h | h | h | h | h | h | h | h | h | h | h <;> subst h
  · exact tc_ref0 hW hS h1 h2
  · exact tc_ref1 hW hS h1
  · exact tc_ref2 hW hS hB' h1
  · exact tc_ref3 hW hS h1
  · exact tc_ref4 hW hS
  · exact tc_ref5 hW hS
  · exact tc_ref6 hW hS
  · exact tc_ref7 hW hS hB' h1
  · exact tc_ref8 hW hS
  · exact tc_ref9 h1 h2 h3
  · exact tc_ref10 hW hS h1 h2
  · exact tc_ref11 hW hS h1 h2
/-- what a command asks -/
theorem tz_r0_z (h : tz_r0 w p1 p2 = 0) : (1 ≤ p1 ∧ p1 ≤ 9) ∧ (0 ≤ p2 ∧ p2 ≤ 99) ∧ w 0 ≠ 8 := by
  unfold tz_r0 at h
  cases c1 : (tz_in 1 p1 9 && tz_in 0 p2 99)
  · rw [c1, if_neg (by decide)] at h; exact absurd h (by decide)
  · rw [c1, if_pos rfl] at h
    by_cases c2 : w 0 = 8
    · rw [if_pos c2] at h; exact absurd h (by decide)
    · exact ⟨tz_in_t.mp ((Bool.and_eq_true _ _).mp c1).1, tz_in_t.mp ((Bool.and_eq_true _ _).mp c1).2, c2⟩
theorem tz_r1_z (h : tz_r1 w p1 = 0) : (0 ≤ p1 ∧ p1 ≤ 99) ∧ w 1 ≠ 6 := by
  unfold tz_r1 at h
  cases c1 : tz_in 0 p1 99
  · rw [c1, if_neg (by decide)] at h; exact absurd h (by decide)
  · rw [c1, if_pos rfl] at h
    by_cases c2 : w 1 = 6
    · rw [if_pos c2] at h; exact absurd h (by decide)
    · exact ⟨tz_in_t.mp c1, c2⟩
theorem tz_r2_z (h : tz_r2 w p1 = 0) : tz_pl w p1 ≠ -1 ∧ tz_adm w 0 = true := by
  unfold tz_r2 at h
  by_cases c1 : tz_pl w p1 = -1
  · rw [if_pos c1] at h; exact absurd h (by decide)
  · rw [if_neg c1] at h
    cases c2 : tz_adm w 0
    · rw [c2] at h; exact absurd h (by decide)
    · exact ⟨c1, rfl⟩
theorem tz_r3_z (h : tz_r3 w p1 = 0) : (-20 ≤ p1 ∧ p1 ≤ 20) ∧ tz_adm w 1 = true := by
  unfold tz_r3 at h
  cases c1 : tz_in (-20) p1 20
  · rw [c1, if_neg (by decide)] at h; exact absurd h (by decide)
  · rw [c1, if_pos rfl] at h
    cases c2 : tz_adm w 1
    · rw [c2] at h; exact absurd h (by decide)
    · exact ⟨tz_in_t.mp c1, rfl⟩
theorem tz_rm_z {k : Int} (h : tz_rm w k = 0) : tz_adm w k = true := by
  unfold tz_rm at h
  cases c2 : tz_adm w k
  · rw [c2] at h; exact absurd h (by decide)
  · rfl
theorem tz_r7_z (h : tz_r7 w p1 = 0) : (0 ≤ p1 ∧ p1 < w 0) ∧ tz_a w p1 3 ≠ 2 ∧ tz_a w p1 2 ≠ 0 := by
  unfold tz_r7 at h
  cases c1 : tz_in 0 p1 (w 0 - 1)
  · rw [c1, if_neg (by decide)] at h; exact absurd h (by decide)
  · rw [c1, if_pos rfl] at h
    have c0 := tz_in_t.mp c1
    by_cases c2 : w 3 = 0 ∨ w 4 = 1 ∨ tz_a w p1 3 = 2
    · rw [if_pos c2] at h; exact absurd h (by decide)
    · rw [if_neg c2] at h
      by_cases c3 : tz_a w p1 2 = 0
      · rw [if_pos c3] at h; exact absurd h (by decide)
      · exact ⟨by omega, fun h4 => c2 (Or.inr (Or.inr h4)), c3⟩
theorem tz_r8_z (h : tz_r8 w = 0) : w 3 ≠ 0 := by
  unfold tz_r8 at h
  intro h2
  rw [if_pos h2] at h; exact absurd h (by decide)
theorem tz_r9_z (h : tz_r9 p1 p2 p3 = 0) : (0 ≤ p1 ∧ p1 ≤ 7) ∧ (0 ≤ p2 ∧ p2 ≤ 7) ∧ 1 ≤ p3 ∧ p3 ≤ 30 := by
  unfold tz_r9 at h
  cases c1 : (tz_in 0 p1 7 && tz_in 0 p2 7)
  · rw [c1, if_neg (by decide)] at h; exact absurd h (by decide)
  · rw [c1, if_pos rfl] at h
    cases c2 : tz_in 1 p3 30
    · rw [c2] at h; exact absurd h (by decide)
    · exact ⟨tz_in_t.mp ((Bool.and_eq_true _ _).mp c1).1, tz_in_t.mp ((Bool.and_eq_true _ _).mp c1).2, tz_in_t.mp c2⟩
theorem tz_r10_z (h : tz_r10 w p1 p2 = 0) : (0 ≤ p1 ∧ p1 ≤ 7) ∧ (0 ≤ p2 ∧ p2 ≤ 7) ∧ tz_wc w p1 p2 = 1 := by
  unfold tz_r10 at h
  cases c1 : (tz_in 0 p1 7 && tz_in 0 p2 7)
  · rw [c1, if_neg (by decide)] at h; exact absurd h (by decide)
  · rw [c1, if_pos rfl] at h
    by_cases c2 : tz_wc w p1 p2 = 1
    · exact ⟨tz_in_t.mp ((Bool.and_eq_true _ _).mp c1).1, tz_in_t.mp ((Bool.and_eq_true _ _).mp c1).2, c2⟩
    · rw [if_neg c2] at h; exact absurd h (by decide)
theorem tz_r11_z (h : tz_r11 w p1 p2 = 0) : (0 ≤ p1 ∧ p1 < w 0) ∧ 1 ≤ p2 ∧ p2 ≤ 9 := by
  unfold tz_r11 at h
  cases c1 : tz_in 0 p1 (w 0 - 1)
  · rw [c1, if_neg (by decide)] at h; exact absurd h (by decide)
  · rw [c1, if_pos rfl] at h
    have c0 := tz_in_t.mp c1
    cases c2 : tz_in 1 p2 9
    · rw [c2] at h; exact absurd h (by decide)
    · exact ⟨by omega, tz_in_t.mp c2⟩
theorem tz_keep (hW : tz_W B w) (hB0 : 0 ≤ B) (hB : B ≤ 900000000) (hc : 0 ≤ c ∧ c ≤ 11) (h : tz_not w c p1 p2 p3 = 0) : tz_W (B + 9) (tz_do w c p1 p2 p3) := by
  have cs : c = 0 ∨ c = 1 ∨ c = 2 ∨ c = 3 ∨ c = 4 ∨ c = 5 ∨ c = 6 ∨ c = 7 ∨ c = 8 ∨ c = 9 ∨ c = 10 ∨ c = 11 := by omega
  have e0 := hW.1
  have e1 := hW.2.1
  have h61 := tz_W61 hW
  rcases cs with h' | h' | h' | h' | h' | h' | h' | h' | h' | h' | h' | h' <;> subst h'
  · have z : tz_r0 w p1 p2 = 0 := h
    have y := tz_r0_z z
    exact tz_k_spoon hW hB0 (by omega) y.1 y.2.1
  · have z : tz_r1 w p1 = 0 := h
    have y := tz_r1_z z
    exact tz_k_prop hW (by omega) y.1
  · have z : tz_r2 w p1 = 0 := h
    have y := tz_r2_z z
    have q := tz_pl_rng (w := w) (v := p1) e1.2
    exact tz_k_make (w2 := ts_fu w 60 p1) (k := 0) hW (fun j h1 h2 => tz_fu_n (by omega)) y.2 (by omega) (by omega) (fun _ => by rw [tz_fu_e]; omega) (by rw [tz_fu_n (by omega)]; exact h61)
  · have z : tz_r3 w p1 = 0 := h
    have y := tz_r3_z z
    exact tz_k_make (w2 := ts_fu w 61 p1) (k := 1) hW (fun j h1 h2 => tz_fu_n (by omega)) y.2 (by omega) (by omega) (fun h => by omega) (by rw [tz_fu_e]; exact y.1)
  · have z : tz_rm w 2 = 0 := h
    exact tz_k_make (w2 := w) (k := 2) hW (fun _ _ _ => rfl) (tz_rm_z z) (by omega) (by omega) (fun h => by omega) h61
  · have z : tz_rm w 3 = 0 := h
    exact tz_k_make (w2 := w) (k := 3) hW (fun _ _ _ => rfl) (tz_rm_z z) (by omega) (by omega) (fun h => by omega) h61
  · have z : tz_rm w 4 = 0 := h
    exact tz_k_make (w2 := w) (k := 4) hW (fun _ _ _ => rfl) (tz_rm_z z) (by omega) (by omega) (fun h => by omega) h61
  · have z : tz_r7 w p1 = 0 := h
    have y := tz_r7_z z
    have a := (tz_W_1 hW).2.2.2.1 p1 y.1.1 y.1.2
    exact tz_k_speak hW y.1.1 y.1.2 (by omega) y.2.2
  · have z : tz_r8 w = 0 := h
    exact tz_k_votes hB hW (tz_r8_z z)
  · have z : tz_r9 p1 p2 p3 = 0 := h
    have y := tz_r9_z z
    exact tz_k_spill y.1 y.2.1 hW
  · exact tz_k_mop hW
  · have z : tz_r11 w p1 p2 = 0 := h
    have y := tz_r11_z z
    exact tz_k_sugar hW y.1.1 y.1.2 y.2
theorem tc_perf0 (hW : tz_W B w) (hS : tz_S b M w) (hB : B ≤ 900000000) (h : tz_not w 0 p1 p2 p3 = 0) (hQ : ∀ M' : ts_M, tz_F b M M' → tz_S b M' (tz_do w 0 p1 p2 p3) → Q (tz_res w 0 p1 p2 p3) M') : wX9_perform b 0 p1 p2 p3 Q M := by
  have e0 := hW.1
  have e1 := hW.2.1
  have e3 := hW.2.2.2.1
  unfold wX9_perform
  rw [tz_y (by decide : (0 : Int) ≤ 0), tz_p (by decide : (0 : Int) ≤ 0 ∧ (0 : Int) < 12), tz_p (by decide : 0 ≤ ts_w 0 ∧ ts_w 0 < 12), tz_y (by decide : ts_w (ts_w 0 + 1) = 1)]
  have y := tz_r0_z (w := w) (p1 := p1) (p2 := p2) h
  exact tc_add hW hS (by omega) hQ
theorem tc_perf1 (hW : tz_W B w) (hS : tz_S b M w) (hB : B ≤ 900000000) (h : tz_not w 1 p1 p2 p3 = 0) (hQ : ∀ M' : ts_M, tz_F b M M' → tz_S b M' (tz_do w 1 p1 p2 p3) → Q (tz_res w 1 p1 p2 p3) M') : wX9_perform b 1 p1 p2 p3 Q M := by
  have e0 := hW.1
  have e1 := hW.2.1
  have e3 := hW.2.2.2.1
  unfold wX9_perform
  rw [tz_y (by decide : (0 : Int) ≤ 1), tz_p (by decide : (0 : Int) ≤ 1 ∧ (1 : Int) < 12), tz_p (by decide : 0 ≤ ts_w 1 ∧ ts_w 1 < 12), tz_x (by decide : ¬ (ts_w (ts_w 1 + 1) = 1)), tz_y (by decide : ts_w (ts_w 1 + 1) = 2)]
  have y := tz_r1_z (w := w) (p1 := p1) h
  exact tc_addP hW hS (by omega) hQ
theorem tc_perf2 (hW : tz_W B w) (hS : tz_S b M w) (hB : B ≤ 900000000) (h : tz_not w 2 p1 p2 p3 = 0) (hQ : ∀ M' : ts_M, tz_F b M M' → tz_S b M' (tz_do w 2 p1 p2 p3) → Q (tz_res w 2 p1 p2 p3) M') : wX9_perform b 2 p1 p2 p3 Q M := by
  have e0 := hW.1
  have e1 := hW.2.1
  have e3 := hW.2.2.2.1
  unfold wX9_perform
  rw [tz_y (by decide : (0 : Int) ≤ 2), tz_p (by decide : (0 : Int) ≤ 2 ∧ (2 : Int) < 12), tz_p (by decide : 0 ≤ ts_w 2 ∧ ts_w 2 < 12), tz_x (by decide : ¬ (ts_w (ts_w 2 + 1) = 1)), tz_x (by decide : ¬ (ts_w (ts_w 2 + 1) = 2)), tz_y (by decide : ts_w (ts_w 2 + 1) = 3)]
  have y := tz_r2_z (w := w) (p1 := p1) h
  have a := tz_adm_top hW y.2 (by omega)
  simp only [forall_eq]
  refine tc_putS (w := w) (M := M) (w2 := ts_fu w 60 p1) hW hS a.1 (fun _ => ?_) (fun a => ?_) rfl (fun j h => tz_si_k (by omega)) (by rw [tz_si_a, if_pos rfl, tz_fu_e]) (by rw [tz_si_k (by omega), if_neg (by omega)]) (fun j h1 h2 => tz_fu_n (by omega)) (fun h => by omega) hQ
  · by_cases c1 : w 3 = 0
    · exact c1
    · exact absurd rfl (a.2.2 c1).2
  · by_cases c1 : a = b + 9
    · exact Or.inr c1
    · exact Or.inl (ts_si_ne c1)
theorem tc_perf3 (hW : tz_W B w) (hS : tz_S b M w) (hB : B ≤ 900000000) (h : tz_not w 3 p1 p2 p3 = 0) (hQ : ∀ M' : ts_M, tz_F b M M' → tz_S b M' (tz_do w 3 p1 p2 p3) → Q (tz_res w 3 p1 p2 p3) M') : wX9_perform b 3 p1 p2 p3 Q M := by
  have e0 := hW.1
  have e1 := hW.2.1
  have e3 := hW.2.2.2.1
  unfold wX9_perform
  rw [tz_y (by decide : (0 : Int) ≤ 3), tz_p (by decide : (0 : Int) ≤ 3 ∧ (3 : Int) < 12), tz_p (by decide : 0 ≤ ts_w 3 ∧ ts_w 3 < 12), tz_x (by decide : ¬ (ts_w (ts_w 3 + 1) = 1)), tz_x (by decide : ¬ (ts_w (ts_w 3 + 1) = 2)), tz_x (by decide : ¬ (ts_w (ts_w 3 + 1) = 3)), tz_y (by decide : ts_w (ts_w 3 + 1) = 4)]
  have y := tz_r3_z (w := w) (p1 := p1) h
  have a := tz_adm_top hW y.2 (by omega)
  simp only [forall_eq]
  refine tc_putS (w := w) (M := M) (w2 := ts_fu w 61 p1) hW hS a.1 (fun h => by omega) (fun a => ?_) rfl (fun j h => tz_si_k (by omega)) (by rw [tz_si_k (by omega), if_neg (by omega)]) (by rw [tz_si_a, if_pos rfl, tz_fu_e]) (fun j h1 h2 => tz_fu_n (by omega)) (fun _ j h1 h2 h3 => ?_) hQ
  · by_cases c1 : a = b + 9
    · exact Or.inr c1
    · exact Or.inl (ts_si_ne c1)
  · have t := (a.2.2 (by omega)).1
    unfold tz_top at t
    rw [if_neg (by omega)] at t
    have m := tz_W_3 hW
    by_cases c1 : j = w 3 - 1
    · rw [c1] at h3; omega
    · have := m.2.2.2.1 j (w 3 - 1) h1 (by omega) (by omega); omega
theorem tc_perf4 (hW : tz_W B w) (hS : tz_S b M w) (hB : B ≤ 900000000) (h : tz_not w 4 p1 p2 p3 = 0) (hQ : ∀ M' : ts_M, tz_F b M M' → tz_S b M' (tz_do w 4 p1 p2 p3) → Q (tz_res w 4 p1 p2 p3) M') : wX9_perform b 4 p1 p2 p3 Q M := by
  have e0 := hW.1
  have e1 := hW.2.1
  have e3 := hW.2.2.2.1
  unfold wX9_perform
  rw [tz_y (by decide : (0 : Int) ≤ 4), tz_p (by decide : (0 : Int) ≤ 4 ∧ (4 : Int) < 12), tz_p (by decide : 0 ≤ ts_w 4 ∧ ts_w 4 < 12), tz_x (by decide : ¬ (ts_w (ts_w 4 + 1) = 1)), tz_x (by decide : ¬ (ts_w (ts_w 4 + 1) = 2)), tz_x (by decide : ¬ (ts_w (ts_w 4 + 1) = 3)), tz_x (by decide : ¬ (ts_w (ts_w 4 + 1) = 4)), tz_y (by decide : ts_w (ts_w 4 + 1) = 5)]
  have z := tz_rm_z (w := w) (k := 2) h
  have a := tz_adm_top hW z (by omega)
  exact tc_putS (w := w) (M := M) (w2 := w) hW hS a.1 (fun h => by omega) (fun a => Or.inl rfl) rfl (fun j h => rfl) (by rw [if_neg (by omega)]) (by rw [if_neg (by omega)]) (fun j h1 h2 => rfl) (fun h => by omega) hQ
theorem tc_perf5 (hW : tz_W B w) (hS : tz_S b M w) (hB : B ≤ 900000000) (h : tz_not w 5 p1 p2 p3 = 0) (hQ : ∀ M' : ts_M, tz_F b M M' → tz_S b M' (tz_do w 5 p1 p2 p3) → Q (tz_res w 5 p1 p2 p3) M') : wX9_perform b 5 p1 p2 p3 Q M := by
  have e0 := hW.1
  have e1 := hW.2.1
  have e3 := hW.2.2.2.1
  unfold wX9_perform
  rw [tz_y (by decide : (0 : Int) ≤ 5), tz_p (by decide : (0 : Int) ≤ 5 ∧ (5 : Int) < 12), tz_p (by decide : 0 ≤ ts_w 5 ∧ ts_w 5 < 12), tz_x (by decide : ¬ (ts_w (ts_w 5 + 1) = 1)), tz_x (by decide : ¬ (ts_w (ts_w 5 + 1) = 2)), tz_x (by decide : ¬ (ts_w (ts_w 5 + 1) = 3)), tz_x (by decide : ¬ (ts_w (ts_w 5 + 1) = 4)), tz_x (by decide : ¬ (ts_w (ts_w 5 + 1) = 5)), tz_y (by decide : ts_w (ts_w 5 + 1) = 6)]
  have z := tz_rm_z (w := w) (k := 3) h
  have a := tz_adm_top hW z (by omega)
  exact tc_putS (w := w) (M := M) (w2 := w) hW hS a.1 (fun h => by omega) (fun a => Or.inl rfl) rfl (fun j h => rfl) (by rw [if_neg (by omega)]) (by rw [if_neg (by omega)]) (fun j h1 h2 => rfl) (fun h => by omega) hQ
theorem tc_perf6 (hW : tz_W B w) (hS : tz_S b M w) (hB : B ≤ 900000000) (h : tz_not w 6 p1 p2 p3 = 0) (hQ : ∀ M' : ts_M, tz_F b M M' → tz_S b M' (tz_do w 6 p1 p2 p3) → Q (tz_res w 6 p1 p2 p3) M') : wX9_perform b 6 p1 p2 p3 Q M := by
  have e0 := hW.1
  have e1 := hW.2.1
  have e3 := hW.2.2.2.1
  unfold wX9_perform
  rw [tz_y (by decide : (0 : Int) ≤ 6), tz_p (by decide : (0 : Int) ≤ 6 ∧ (6 : Int) < 12), tz_p (by decide : 0 ≤ ts_w 6 ∧ ts_w 6 < 12), tz_x (by decide : ¬ (ts_w (ts_w 6 + 1) = 1)), tz_x (by decide : ¬ (ts_w (ts_w 6 + 1) = 2)), tz_x (by decide : ¬ (ts_w (ts_w 6 + 1) = 3)), tz_x (by decide : ¬ (ts_w (ts_w 6 + 1) = 4)), tz_x (by decide : ¬ (ts_w (ts_w 6 + 1) = 5)), tz_x (by decide : ¬ (ts_w (ts_w 6 + 1) = 6)), tz_y (by decide : ts_w (ts_w 6 + 1) = 7)]
  have z := tz_rm_z (w := w) (k := 4) h
  have a := tz_adm_top hW z (by omega)
  exact tc_putS (w := w) (M := M) (w2 := w) hW hS a.1 (fun h => by omega) (fun a => Or.inl rfl) rfl (fun j h => rfl) (by rw [if_neg (by omega)]) (by rw [if_neg (by omega)]) (fun j h1 h2 => rfl) (fun h => by omega) hQ
theorem tc_perf7 (hW : tz_W B w) (hS : tz_S b M w) (hB : B ≤ 900000000) (h : tz_not w 7 p1 p2 p3 = 0) (hQ : ∀ M' : ts_M, tz_F b M M' → tz_S b M' (tz_do w 7 p1 p2 p3) → Q (tz_res w 7 p1 p2 p3) M') : wX9_perform b 7 p1 p2 p3 Q M := by
  have e0 := hW.1
  have e1 := hW.2.1
  have e3 := hW.2.2.2.1
  unfold wX9_perform
  rw [tz_y (by decide : (0 : Int) ≤ 7), tz_p (by decide : (0 : Int) ≤ 7 ∧ (7 : Int) < 12), tz_p (by decide : 0 ≤ ts_w 7 ∧ ts_w 7 < 12), tz_x (by decide : ¬ (ts_w (ts_w 7 + 1) = 1)), tz_x (by decide : ¬ (ts_w (ts_w 7 + 1) = 2)), tz_x (by decide : ¬ (ts_w (ts_w 7 + 1) = 3)), tz_x (by decide : ¬ (ts_w (ts_w 7 + 1) = 4)), tz_x (by decide : ¬ (ts_w (ts_w 7 + 1) = 5)), tz_x (by decide : ¬ (ts_w (ts_w 7 + 1) = 6)), tz_x (by decide : ¬ (ts_w (ts_w 7 + 1) = 7)), tz_y (by decide : ts_w (ts_w 7 + 1) = 8)]
  have y := tz_r7_z (w := w) (p1 := p1) h
  exact tc_letSpeak hW hS y.1.1 y.1.2 hQ
theorem tc_perf8 (hW : tz_W B w) (hS : tz_S b M w) (hB : B ≤ 900000000) (h : tz_not w 8 p1 p2 p3 = 0) (hQ : ∀ M' : ts_M, tz_F b M M' → tz_S b M' (tz_do w 8 p1 p2 p3) → Q (tz_res w 8 p1 p2 p3) M') : wX9_perform b 8 p1 p2 p3 Q M := by
  have e0 := hW.1
  have e1 := hW.2.1
  have e3 := hW.2.2.2.1
  unfold wX9_perform
  rw [tz_y (by decide : (0 : Int) ≤ 8), tz_p (by decide : (0 : Int) ≤ 8 ∧ (8 : Int) < 12), tz_p (by decide : 0 ≤ ts_w 8 ∧ ts_w 8 < 12), tz_x (by decide : ¬ (ts_w (ts_w 8 + 1) = 1)), tz_x (by decide : ¬ (ts_w (ts_w 8 + 1) = 2)), tz_x (by decide : ¬ (ts_w (ts_w 8 + 1) = 3)), tz_x (by decide : ¬ (ts_w (ts_w 8 + 1) = 4)), tz_x (by decide : ¬ (ts_w (ts_w 8 + 1) = 5)), tz_x (by decide : ¬ (ts_w (ts_w 8 + 1) = 6)), tz_x (by decide : ¬ (ts_w (ts_w 8 + 1) = 7)), tz_x (by decide : ¬ (ts_w (ts_w 8 + 1) = 8)), tz_y (by decide : ts_w (ts_w 8 + 1) = 9)]
  have z := tz_r8_z (w := w) h
  refine tc_decide hB hW hS z (fun m f g => ?_)
  have q := hQ m f g
  unfold wX9_perform_B177
  rw [tz_iw, tz_iz]
  have r : tz_res w 8 p1 p2 p3 = tz_i (tz_ado w) := rfl
  rw [r] at q
  cases c1 : tz_ado w
  · rw [tz_y rfl]; rw [c1] at q; exact q
  · rw [tz_x (by decide)]; rw [c1] at q; exact q
theorem tc_perf9 (hW : tz_W B w) (hS : tz_S b M w) (hB : B ≤ 900000000) (h : tz_not w 9 p1 p2 p3 = 0) (hQ : ∀ M' : ts_M, tz_F b M M' → tz_S b M' (tz_do w 9 p1 p2 p3) → Q (tz_res w 9 p1 p2 p3) M') : wX9_perform b 9 p1 p2 p3 Q M := by
  have e0 := hW.1
  have e1 := hW.2.1
  have e3 := hW.2.2.2.1
  unfold wX9_perform
  rw [tz_y (by decide : (0 : Int) ≤ 9), tz_p (by decide : (0 : Int) ≤ 9 ∧ (9 : Int) < 12), tz_p (by decide : 0 ≤ ts_w 9 ∧ ts_w 9 < 12), tz_x (by decide : ¬ (ts_w (ts_w 9 + 1) = 1)), tz_x (by decide : ¬ (ts_w (ts_w 9 + 1) = 2)), tz_x (by decide : ¬ (ts_w (ts_w 9 + 1) = 3)), tz_x (by decide : ¬ (ts_w (ts_w 9 + 1) = 4)), tz_x (by decide : ¬ (ts_w (ts_w 9 + 1) = 5)), tz_x (by decide : ¬ (ts_w (ts_w 9 + 1) = 6)), tz_x (by decide : ¬ (ts_w (ts_w 9 + 1) = 7)), tz_x (by decide : ¬ (ts_w (ts_w 9 + 1) = 8)), tz_x (by decide : ¬ (ts_w (ts_w 9 + 1) = 9)), tz_y (by decide : ts_w (ts_w 9 + 1) = 10)]
  have y := tz_r9_z (p1 := p1) (p2 := p2) (p3 := p3) h
  exact tc_spillTea y.1 y.2.1 y.2.2 hW hS hQ
theorem tc_perf10 (hW : tz_W B w) (hS : tz_S b M w) (hB : B ≤ 900000000) (h : tz_not w 10 p1 p2 p3 = 0) (hQ : ∀ M' : ts_M, tz_F b M M' → tz_S b M' (tz_do w 10 p1 p2 p3) → Q (tz_res w 10 p1 p2 p3) M') : wX9_perform b 10 p1 p2 p3 Q M := by
  have e0 := hW.1
  have e1 := hW.2.1
  have e3 := hW.2.2.2.1
  unfold wX9_perform
  rw [tz_y (by decide : (0 : Int) ≤ 10), tz_p (by decide : (0 : Int) ≤ 10 ∧ (10 : Int) < 12), tz_p (by decide : 0 ≤ ts_w 10 ∧ ts_w 10 < 12), tz_x (by decide : ¬ (ts_w (ts_w 10 + 1) = 1)), tz_x (by decide : ¬ (ts_w (ts_w 10 + 1) = 2)), tz_x (by decide : ¬ (ts_w (ts_w 10 + 1) = 3)), tz_x (by decide : ¬ (ts_w (ts_w 10 + 1) = 4)), tz_x (by decide : ¬ (ts_w (ts_w 10 + 1) = 5)), tz_x (by decide : ¬ (ts_w (ts_w 10 + 1) = 6)), tz_x (by decide : ¬ (ts_w (ts_w 10 + 1) = 7)), tz_x (by decide : ¬ (ts_w (ts_w 10 + 1) = 8)), tz_x (by decide : ¬ (ts_w (ts_w 10 + 1) = 9)), tz_x (by decide : ¬ (ts_w (ts_w 10 + 1) = 10)), tz_y (by decide : ts_w (ts_w 10 + 1) = 11)]
  have y := tz_r10_z (w := w) (p1 := p1) (p2 := p2) h
  unfold wX1_cell
  refine tc_dry (s := (8 * p1 + p2).toNat) hW hS (by omega) (fun k hk => ?_) hQ
  rw [tz_bit_c (by omega) (by omega) hk]
  by_cases c1 : k = (8 * p1 + p2).toNat
  · rw [decide_eq_true c1, decide_eq_true (by omega)]
  · rw [decide_eq_false c1, decide_eq_false (by omega)]
theorem tc_perf11 (hW : tz_W B w) (hS : tz_S b M w) (hB : B ≤ 900000000) (h : tz_not w 11 p1 p2 p3 = 0) (hQ : ∀ M' : ts_M, tz_F b M M' → tz_S b M' (tz_do w 11 p1 p2 p3) → Q (tz_res w 11 p1 p2 p3) M') : wX9_perform b 11 p1 p2 p3 Q M := by
  have e0 := hW.1
  have e1 := hW.2.1
  have e3 := hW.2.2.2.1
  unfold wX9_perform
  rw [tz_y (by decide : (0 : Int) ≤ 11), tz_p (by decide : (0 : Int) ≤ 11 ∧ (11 : Int) < 12), tz_p (by decide : 0 ≤ ts_w 11 ∧ ts_w 11 < 12), tz_x (by decide : ¬ (ts_w (ts_w 11 + 1) = 1)), tz_x (by decide : ¬ (ts_w (ts_w 11 + 1) = 2)), tz_x (by decide : ¬ (ts_w (ts_w 11 + 1) = 3)), tz_x (by decide : ¬ (ts_w (ts_w 11 + 1) = 4)), tz_x (by decide : ¬ (ts_w (ts_w 11 + 1) = 5)), tz_x (by decide : ¬ (ts_w (ts_w 11 + 1) = 6)), tz_x (by decide : ¬ (ts_w (ts_w 11 + 1) = 7)), tz_x (by decide : ¬ (ts_w (ts_w 11 + 1) = 8)), tz_x (by decide : ¬ (ts_w (ts_w 11 + 1) = 9)), tz_x (by decide : ¬ (ts_w (ts_w 11 + 1) = 10)), tz_x (by decide : ¬ (ts_w (ts_w 11 + 1) = 11)), tz_y (by decide : ts_w (ts_w 11 + 1) = 12)]
  have y := tz_r11_z (w := w) (p1 := p1) (p2 := p2) h
  exact tc_give hW hS y.1.1 y.1.2 hQ
theorem tc_perform (hW : tz_W B w) (hS : tz_S b M w) (hB : B ≤ 900000000) (hc : 0 ≤ c ∧ c ≤ 11) (h : tz_not w c p1 p2 p3 = 0) (hQ : ∀ M' : ts_M, tz_F b M M' → tz_S b M' (tz_do w c p1 p2 p3) → Q (tz_res w c p1 p2 p3) M') : wX9_perform b c p1 p2 p3 Q M := by
  have cs : c = 0 ∨ c = 1 ∨ c = 2 ∨ c = 3 ∨ c = 4 ∨ c = 5 ∨ c = 6 ∨ c = 7 ∨ c = 8 ∨ c = 9 ∨ c = 10 ∨ c = 11 := by omega
  rcases cs with h' | h' | h' | h' | h' | h' | h' | h' | h' | h' | h' | h' <;> subst h'
  · exact tc_perf0 hW hS hB h hQ
  · exact tc_perf1 hW hS hB h hQ
  · exact tc_perf2 hW hS hB h hQ
  · exact tc_perf3 hW hS hB h hQ
  · exact tc_perf4 hW hS hB h hQ
  · exact tc_perf5 hW hS hB h hQ
  · exact tc_perf6 hW hS hB h hQ
  · exact tc_perf7 hW hS hB h hQ
  · exact tc_perf8 hW hS hB h hQ
  · exact tc_perf9 hW hS hB h hQ
  · exact tc_perf10 hW hS hB h hQ
  · exact tc_perf11 hW hS hB h hQ
end TZO
