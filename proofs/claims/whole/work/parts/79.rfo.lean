/-! ===== supports on both sides, the survey, the reference's ranks ===== -/
def tz_spf (w : Int → Int) (p q s : Int) : Int := if tz_df p (tz_a w s 1) < tz_df q (tz_a w s 1) then tz_a w s 0 else 0
/-- the weight of the spoons that prefer a position to another -/
def tz_sp (w : Int → Int) (p q : Int) : Int := tz_sum (tz_spf w p q) (w 0).toNat
/-- the support of a place against another -/
def tz_ss (w : Int → Int) (i j : Nat) : Int := tz_sp w (tz_pp w (i : Int)) (tz_pp w (j : Int))
def tz_nn (w : Int → Int) : Nat := (w 1).toNat
def tz_id (w : Int → Int) (i : Nat) : Int := tz_pi w (i : Int)
section TZU
variable {B p p1 p2 p3 x : Int} {a b c k j n f : Nat} {Q : Int → ts_M → Prop} {Qv : ts_M → Prop} {M : ts_M} {w : Int → Int} {s : Nat → Nat → Int} {id : Nat → Int}
theorem tz_sp_rng (hW : tz_W B w) : 0 ≤ tz_sp w p1 p2 ∧ tz_sp w p1 p2 ≤ 72 := by
  have e0 := hW.1
  have h := tz_sum_rng (f := tz_spf w p1 p2) (lo := 0) (up := 9) (n := (w 0).toNat) (fun i h1 h2 => by
    have h3 := ((tz_W_1 hW).2.2.2.1 i h1 (by omega)).1
    unfold tz_spf
    split <;> omega)
  unfold tz_sp
  omega
theorem tz_ss_sv (hW : tz_W B w) : tz_sv (tz_ss w) n := fun _ _ _ _ => tz_sp_rng hW
theorem tz_nn_6 (hW : tz_W B w) : (tz_nn w : Int) = w 1 ∧ tz_nn w ≤ 6 := by
  have := (tz_W_2 hW).1
  unfold tz_nn
  omega
theorem tz_id_ID (hW : tz_W B w) (hB : B ≤ 1000000000) : tz_ID (tz_id w) (tz_nn w) := by
  obtain ⟨h1, h2, h3, h4⟩ := tz_W_2 hW
  have hn := tz_nn_6 hW
  refine ⟨fun i hi => ?_, fun i j hi hj he => ?_⟩
  · have := (h3 (i : Int) (by omega) (by omega)).1
    unfold tz_id; omega
  · rcases Nat.lt_trichotomy i j with h | h | h
    · exact absurd he (h4 (i : Int) (j : Int) (by omega) (by omega) (by omega))
    · exact h
    · exact absurd he.symm (h4 (j : Int) (i : Int) (by omega) (by omega) (by omega))
/-- the class -/
theorem tc_preferring (hW : tz_W B w) (hS : tz_S b M w) (h1 : 0 ≤ p1 ∧ p1 ≤ 99) (h2 : 0 ≤ p2 ∧ p2 ≤ 99) (hQ : Q (tz_sp w p1 p2) M) : wX8_preferring b p1 p2 Q M := by
  have e0 := hW.1
  have s0 := hS.1
  simp only [wX8_preferring, forall_eq]
  refine tz_ex4 (fun d x1 x2 x3 x4 m => x1 = p1 ∧ x2 = p2 ∧ x3 = tz_sum (tz_spf w p1 p2) x4.toNat ∧ 0 ≤ x4 ∧ x4 ≤ w 0 ∧ m = M ∧ d = (w 0 - x4).toNat) (w 0).toNat ⟨rfl, rfl, rfl, by omega, by omega, rfl, by omega⟩ ?_
  rintro k0 d x1 x2 x3 x4 m ⟨rfl, rfl, rfl, i1, i2, rfl, rfl⟩ hk
  simp only [wX8_preferring_L5, wX8_preferring_B51, forall_eq]
  rw [s0, tz_n (x := x4) (by omega) (by omega), tz_n (x := w 0) (by omega) (by omega)]
  by_cases c1 : w 0 ≤ x4
  · rw [tz_y c1, show x4 = w 0 by omega]; exact hQ
  · have h3 := (tz_W_1 hW).2.2.2.1 x4 i1 (by omega)
    have h4 := hS.2.1 x4 i1 (by omega)
    rw [tz_x c1, tz_p ⟨i1, by omega⟩, h4.2.1, tc_abs h1.1 (by omega) (by omega) (by omega), tz_p ⟨i1, by omega⟩, h4.2.1, tc_abs h2.1 (by omega) (by omega) (by omega)]
    have d1 := tz_df_rng h1.1 h1.2 h3.2.1.1 h3.2.1.2
    have d2 := tz_df_rng h2.1 h2.2 h3.2.1.1 h3.2.1.2
    rw [tz_n (x := tz_df x1 (tz_a w x4 1)) (by omega) (by omega), tz_n (x := tz_df x2 (tz_a w x4 1)) (by omega) (by omega)]
    have e2 := tz_sum_step (f := tz_spf w x1 x2) i1
    have e3 : tz_spf w x1 x2 x4 = if tz_df x1 (tz_a w x4 1) < tz_df x2 (tz_a w x4 1) then tz_a w x4 0 else 0 := rfl
    by_cases c2 : tz_df x2 (tz_a w x4 1) ≤ tz_df x1 (tz_a w x4 1)
    · rw [if_neg (by omega)] at e3
      rw [e3, Int.add_zero] at e2
      rw [tz_y c2]
      exact hk _ _ _ _ _ _ (by omega) ⟨rfl, rfl, e2.symm, by omega, by omega, rfl, rfl⟩
    · rw [if_pos (by omega)] at e3
      rw [e3] at e2
      rw [tz_x c2, tz_p ⟨i1, by omega⟩, h4.1]
      exact hk _ _ _ _ _ _ (by omega) ⟨rfl, rfl, e2.symm, by omega, by omega, rfl, rfl⟩
theorem tc_survey (hW : tz_W B w) (hS : tz_S b M w) (hb : b + 14 ≤ 154) (hQ : ∀ M' : ts_M, tz_fr (fun a => a = 155 ∨ a = 156) M M' → tz_SV (tz_ss w) (tz_nn w) M' → Qv M') : wX5_survey b Qv M := by
  obtain ⟨e1, e2, e3, e4⟩ := tz_W_2 hW
  obtain ⟨hn1, hn6⟩ := tz_nn_6 hW
  have s6 := (tz_S_2 hS).1
  unfold wX5_survey
  rw [s6, tc_min (tz_n (by omega) (by omega)) (tz_n (by omega) (by omega)), if_neg (by omega)]
  simp only [forall_eq]
  have key : ∀ m : ts_M, tz_fr (fun a => a = 155 ∨ a = 156) M m → tz_S b m w := fun m hF => tz_S_m hW hS (fun a h1 h2 => hF.1 a (by omega))
  refine tz_ex1 (fun d x1 m => ∃ k : Nat, x1 = (k : Int) ∧ tz_fr (fun a => a = 155 ∨ a = 156) M m ∧ m.1 155 2 = w 1 ∧ (∀ i j : Nat, i < k → j < tz_nn w → m.1 156 ((i * 6 + j : Nat) : Int) = tz_ss w i j) ∧ k + d = tz_nn w) (tz_nn w) ⟨0, rfl, tz_fr_si (Or.inl rfl) tz_fr_rfl, tz_si_a, fun i j h => absurd h (Nat.not_lt_zero i), by omega⟩ ?_
  rintro k0 d x1 m ⟨k, rfl, hF, h2, hT, hd⟩ hk
  simp only [wX5_survey_L20, forall_eq]
  rw [h2, tz_n (x := (k : Int)) (by omega) (by omega), tz_n (x := w 1) (by omega) (by omega)]
  by_cases c1 : k = tz_nn w
  · rw [tz_y (by omega)]
    exact hQ m hF ⟨by rw [h2, hn1], hn6, tz_ss_sv hW, fun i j hi hj => hT i j (by omega) hj⟩
  · rw [tz_x (by omega)]
    refine tz_ex2 (fun d2 x1 x2 m2 => ∃ l : Nat, x1 = (k : Int) ∧ x2 = (l : Int) ∧ tz_fr (fun a => a = 155 ∨ a = 156) M m2 ∧ m2.1 155 2 = w 1 ∧ (∀ i j : Nat, i < k → j < tz_nn w → m2.1 156 ((i * 6 + j : Nat) : Int) = tz_ss w i j) ∧ (∀ j : Nat, j < l → m2.1 156 ((k * 6 + j : Nat) : Int) = tz_ss w k j) ∧ l + d2 = tz_nn w) (tz_nn w) ⟨0, rfl, rfl, hF, h2, hT, fun j h => absurd h (Nat.not_lt_zero j), by omega⟩ ?_
    rintro k1 d2 x1 x2 m2 ⟨l, rfl, rfl, hF2, h3, hT2, hU, hd2⟩ hk2
    simp only [wX5_survey_L31, forall_eq]
    rw [h3, tz_n (x := (k : Int)) (by omega) (by omega), tz_n (x := (l : Int)) (by omega) (by omega), tz_n (x := w 1) (by omega) (by omega)]
    by_cases c2 : l = tz_nn w
    · rw [tz_y (by omega)]
      refine hk (d - 1) _ _ (by omega) ⟨k + 1, by omega, hF2, h3, fun i j hi hj => ?_, by omega⟩
      by_cases c3 : i = k
      · rw [c3]; exact hU j (by omega)
      · exact hT2 i j (by omega) hj
    · have hS2 := key m2 hF2
      have hP := (tz_S_2 hS2).2.2
      have g1 := (e3 (k : Int) (by omega) (by omega)).2
      have g2 := (e3 (l : Int) (by omega) (by omega)).2
      rw [tz_x (by omega), tz_p ⟨by omega, by omega⟩, tz_p ⟨by omega, by omega⟩, (hP (k : Int) (by omega) (by omega)).2, (hP (l : Int) (by omega) (by omega)).2]
      refine tc_preferring hW hS2 g1 g2 ?_
      rw [tz_n (x := (k : Int) * 6 + (l : Int)) (by omega) (by omega), tz_p ⟨by omega, by omega⟩]
      refine hk2 (d2 - 1) _ _ _ (by omega) ⟨l + 1, rfl, by omega, tz_fr_si (Or.inr rfl) hF2, by rw [ts_si_ne (by decide)]; exact h3, fun i j hi hj => ?_, fun j hj => ?_, by omega⟩
      · rw [tz_si_k (by omega)]; exact hT2 i j hi hj
      · by_cases c3 : j = l
        · rw [c3, show ((k * 6 + l : Nat) : Int) = (k : Int) * 6 + (l : Int) by omega, tz_si_a]; rfl
        · rw [tz_si_k (by omega)]; exact hU j (by omega)
/-- the reference -/
theorem tm_supports (hW : tz_W B (M.1 165)) (h1 : (j : Int) < M.1 165 1) (h2 : (k : Int) < M.1 165 1) (hQ : Q (tz_ss (M.1 165) j k) M) : wX12_supports (j : Int) (k : Int) Q M := by
  have e0 := hW.1
  obtain ⟨e1, e2, e3, e4⟩ := tz_W_2 hW
  have g1 := (e3 (j : Int) (by omega) h1).2
  have g2 := (e3 (k : Int) (by omega) h2).2
  simp only [wX12_supports, forall_eq]
  refine tz_ex4 (fun d x1 x2 x3 x4 m => x1 = (j : Int) ∧ x2 = (k : Int) ∧ x3 = tz_sum (tz_spf (M.1 165) (tz_pp (M.1 165) (j : Int)) (tz_pp (M.1 165) (k : Int))) x4.toNat ∧ 0 ≤ x4 ∧ x4 ≤ M.1 165 0 ∧ m = M ∧ d = (M.1 165 0 - x4).toNat) (M.1 165 0).toNat ⟨rfl, rfl, rfl, by omega, by omega, rfl, by omega⟩ ?_
  rintro k0 d x1 x2 x3 x4 m ⟨rfl, rfl, rfl, i1, i2, rfl, rfl⟩ hk
  simp only [wX12_supports_L5, wX12_supports_B65, forall_eq]
  rw [tz_n (x := x4) (by omega) (by omega), tz_n (x := m.1 165 0) (by omega) (by omega)]
  by_cases c1 : m.1 165 0 ≤ x4
  · rw [tz_y c1, show x4 = m.1 165 0 by omega]; exact hQ
  · have h3 := (tz_W_1 hW).2.2.2.1 x4 i1 (by omega)
    rw [tz_x c1, tm_positionAt (by omega) (by omega), tm_spoon i1 (by omega) (by omega) (by omega), tm_difference g1.1 (by omega) (by omega) (by omega)]
    rw [tm_positionAt (by omega) (by omega), tm_spoon i1 (by omega) (by omega) (by omega), tm_difference g2.1 (by omega) (by omega) (by omega)]
    have d1 := tz_df_rng g1.1 g1.2 h3.2.1.1 h3.2.1.2
    have d2 := tz_df_rng g2.1 g2.2 h3.2.1.1 h3.2.1.2
    rw [tz_n (x := tz_df (tz_pp (m.1 165) (j : Int)) (tz_a (m.1 165) x4 1)) (by omega) (by omega), tz_n (x := tz_df (tz_pp (m.1 165) (k : Int)) (tz_a (m.1 165) x4 1)) (by omega) (by omega)]
    have e2 := tz_sum_step (f := tz_spf (m.1 165) (tz_pp (m.1 165) (j : Int)) (tz_pp (m.1 165) (k : Int))) i1
    have e3 : tz_spf (m.1 165) (tz_pp (m.1 165) (j : Int)) (tz_pp (m.1 165) (k : Int)) x4 = if tz_df (tz_pp (m.1 165) (j : Int)) (tz_a (m.1 165) x4 1) < tz_df (tz_pp (m.1 165) (k : Int)) (tz_a (m.1 165) x4 1) then tz_a (m.1 165) x4 0 else 0 := rfl
    by_cases c2 : tz_df (tz_pp (m.1 165) (k : Int)) (tz_a (m.1 165) x4 1) ≤ tz_df (tz_pp (m.1 165) (j : Int)) (tz_a (m.1 165) x4 1)
    · rw [if_neg (by omega)] at e3
      rw [e3] at e2
      rw [tz_y c2]
      exact hk _ _ _ _ _ _ (by omega) ⟨rfl, rfl, e2.symm, by omega, by omega, rfl, rfl⟩
    · rw [if_pos (by omega)] at e3
      rw [e3] at e2
      rw [tz_x c2, tm_spoon i1 (by omega) (by omega) (by omega)]
      exact hk _ _ _ _ _ _ (by omega) ⟨rfl, rfl, e2.symm, by omega, by omega, rfl, rfl⟩
theorem tz_dis_n (hn : n ≤ 6) (ha : a < 2 ^ n) : ∀ d : Nat, n + d ≤ 6 → tz_dis s f a (n + d) = tz_dis s f a n
  | 0, _ => rfl
  | d + 1, h => by
    have h1 := tz_dis_n hn ha d (by omega)
    show tz_dis s f a (n + d) + (if a.testBit (n + d) then s (n + d) f else 0) = _
    cases hc : a.testBit (n + d)
    · rw [if_neg (by decide), h1, Int.add_zero]
    · have := tz_s_mem hn ha (by omega) hc; omega
theorem tz_dis_6 (hn : n ≤ 6) (ha : a < 2 ^ n) : tz_dis s f a n = tz_dis s f a 6 := by
  have h1 := tz_dis_n hn ha (6 - n) (by omega) (s := s) (f := f)
  rw [show n + (6 - n) = 6 by omega] at h1
  exact h1.symm
theorem tm_costFirst (hW : tz_W B (M.1 165)) (hf : f < tz_nn (M.1 165)) (ha : a < 2 ^ tz_nn (M.1 165)) (hb : a.testBit f = true) (hQ : Q (tz_dis (tz_ss (M.1 165)) f (tz_dl a f) 6) M) : wX12_costFirst (f : Int) (a : Int) Q M := by
  obtain ⟨hn1, hn6⟩ := tz_nn_6 hW
  have h64 := tz_s_64 hn6 ha
  simp only [wX12_costFirst, forall_eq]
  refine tz_ex4 (fun d x1 x2 x3 x4 m => ∃ k : Nat, x1 = (f : Int) ∧ x2 = (a : Int) ∧ x3 = tz_dis (tz_ss (M.1 165)) f (tz_dl a f) k ∧ x4 = (k : Int) ∧ m = M ∧ k + d = tz_nn (M.1 165)) (tz_nn (M.1 165)) ⟨0, rfl, rfl, rfl, rfl, rfl, by omega⟩ ?_
  rintro k0 d x1 x2 x3 x4 m ⟨k, rfl, rfl, rfl, rfl, rfl, hd⟩ hk
  simp only [wX12_costFirst_L5, wX12_costFirst_B43, wX12_costFirst_B44, forall_eq]
  rw [tz_n (x := (k : Int)) (by omega) (by omega), tz_n (x := (f : Int)) (by omega) (by omega), tz_n (x := m.1 165 1) (by omega) (by omega)]
  by_cases c1 : k = tz_nn (m.1 165)
  · rw [tz_y (by omega), c1, tz_dis_6 hn6 (tz_s_dlt hn6 ha)]; exact hQ
  · have hst : tz_dis (tz_ss (m.1 165)) f (tz_dl a f) (k + 1) = tz_dis (tz_ss (m.1 165)) f (tz_dl a f) k + if (tz_dl a f).testBit k then tz_ss (m.1 165) k f else 0 := rfl
    rw [tz_s_tb h64 (by omega) (by omega)] at hst
    have hgo : ∀ x : Int, x = tz_dis (tz_ss (m.1 165)) f (tz_dl a f) (k + 1) → k0 (f : Int) (a : Int) x ((k : Int) + 1) m := fun x hx => hk (d - 1) _ _ _ _ _ (by omega) ⟨k + 1, rfl, rfl, hx, by omega, rfl, by omega⟩
    rw [tz_x (by omega)]
    by_cases c2 : k = f
    · rw [tz_y (by omega)]
      refine hgo _ ?_
      rw [hst, if_neg (by simp [c2])]
    · rw [tz_x (by omega), tz_s_in h64 (by omega), tz_iw, tz_io]
      cases hc : a.testBit k
      · rw [tz_x2 (by decide)]
        refine hgo _ ?_
        rw [hst, hc, if_neg (by simp)]
      · rw [tz_y2 (by decide)]
        refine tm_supports hW (by omega) (by omega) ?_
        refine hgo _ ?_
        rw [hst, hc, if_pos (by simp [c2])]
/-- the reference's table: filled below c; its firsts -/
def tz_RB (s : Nat → Nat → Int) (n : Nat) (id : Nat → Int) (c : Nat) (M : ts_M) : Prop := ∀ b : Nat, b < c → b < 2 ^ n → M.1 170 (b : Int) = tz_G s n b ∧ (b ≠ 0 → ∃ f : Nat, M.1 171 (b : Int) = (f : Int) ∧ tz_w1 s n id b f)
theorem tm_ranks (hW : tz_W B (M.1 165)) (hB : B ≤ 1000000000) (hQ : ∀ M' : ts_M, tz_fr (fun a => a = 170 ∨ a = 171) M M' → tz_RB (tz_ss (M.1 165)) (tz_nn (M.1 165)) (tz_id (M.1 165)) 64 M' → Qv M') : wX12_ranks Qv M := by
  obtain ⟨hn1, hn6⟩ := tz_nn_6 hW
  have hp := tz_s_p1 hn6
  have hI := tz_id_ID hW hB
  have hs := tz_ss_sv (n := tz_nn (M.1 165)) hW
  generalize hsd : tz_ss (M.1 165) = s at *
  generalize hnd : tz_nn (M.1 165) = n at *
  generalize hidd : tz_id (M.1 165) = id at *
  simp only [wX12_ranks, forall_eq]
  refine tz_ex1 (fun d x1 m => ∃ k : Nat, x1 = (k : Int) ∧ 1 ≤ k ∧ tz_fr (fun a => a = 170 ∨ a = 171) M m ∧ tz_RB s n id k m ∧ k + d = 2 ^ n) (2 ^ n - 1) ⟨1, rfl, by omega, tz_fr_si (Or.inl rfl) tz_fr_rfl, fun b h1 _ => by
    have : b = 0 := by omega
    subst this
    exact ⟨by rw [show ((0 : Nat) : Int) = 0 from rfl, tz_si_a]; rfl, fun h => absurd rfl h⟩, by omega⟩ ?_
  rintro k0 d x1 m ⟨k, rfl, hk1, hF, hT, hd⟩ hk
  have hrow : m.1 165 = M.1 165 := (hF.1 165 (by decide)).1
  simp only [wX12_ranks_L9, forall_eq]
  rw [hrow, ← hn1, tz_s_one (by omega), tz_n (x := ((2 ^ n : Nat) : Int)) (by omega) (by omega), tz_n (x := (k : Int)) (by omega) (by omega)]
  by_cases c1 : k = 2 ^ n
  · rw [tz_y (by omega)]
    exact hQ m hF (fun b _ h2 => hT b (by omega) h2)
  · rw [tz_x (by omega), tz_p ⟨by omega, by omega⟩]
    have ha : k < 2 ^ n := by omega
    have h64 := tz_s_64 hn6 ha
    have h0 : k ≠ 0 := by omega
    refine tz_ex2 (fun d2 x1 x2 m2 => ∃ l : Nat, x1 = (k : Int) ∧ x2 = (l : Int) ∧ tz_fr (fun a => a = 170 ∨ a = 171) M m2 ∧ tz_RB s n id k m2 ∧ ((m2.1 170 (k : Int) = -1 ∧ ∀ e : Nat, e < l → k.testBit e = false) ∨ ∃ f : Nat, m2.1 171 (k : Int) = (f : Int) ∧ f < l ∧ k.testBit f = true ∧ m2.1 170 (k : Int) = tz_gf s n k f ∧ ∀ e : Nat, e < l → k.testBit e = true → tz_gf s n k f < tz_gf s n k e ∨ (tz_gf s n k f = tz_gf s n k e ∧ id f ≤ id e)) ∧ l + d2 = n) n ⟨0, rfl, rfl, tz_fr_si (Or.inl rfl) hF, fun b h1 h2 => ⟨by rw [tz_si_k (by omega)]; exact (hT b h1 h2).1, by rw [ts_si_ne (by decide)]; exact (hT b h1 h2).2⟩, Or.inl ⟨tz_si_a, fun e h => absurd h (Nat.not_lt_zero e)⟩, by omega⟩ ?_
    rintro k1 d2 x1 x2 m2 ⟨l, rfl, rfl, hF2, hT2, hx, hd2⟩ hk2
    have hrow2 : m2.1 165 = M.1 165 := (hF2.1 165 (by decide)).1
    simp only [wX12_ranks_L30, wX12_ranks_B147, forall_eq]
    rw [hrow2, ← hn1, tz_n (x := (n : Int)) (by omega) (by omega), tz_n (x := (l : Int)) (by omega) (by omega)]
    by_cases c2 : l = n
    · rw [tz_y (by omega)]
      refine hk (d - 1) _ _ (by omega) ⟨k + 1, by omega, by omega, hF2, fun b h1 h2 => ?_, by omega⟩
      by_cases c3 : b = k
      · subst c3
        obtain ⟨⟨e, he, hbe, hge⟩, hmin⟩ := tz_G_min hs hn6 ha h0
        rcases hx with ⟨g1, g2⟩ | ⟨f, g1, g2, g3, g4, g5⟩
        · rw [g2 e (by omega)] at hbe; cases hbe
        · have h5 := g5 e (by omega) hbe
          have h6 := hmin f (by omega) g3
          have h7 : tz_gf s n b f = tz_G s n b := by omega
          refine ⟨by rw [g4, h7], fun _ => ⟨f, g1, by omega, g3, h7, fun e2 he2 hb2 hg2 => ?_⟩⟩
          have h8 := g5 e2 (by omega) hb2
          omega
      · exact hT2 b (by omega) h2
    · rw [tz_x (by omega), tz_s_in h64 (by omega), tz_iw, tz_iz]
      cases hc : k.testBit l
      · rw [tz_y2 (by decide)]
        refine hk2 (d2 - 1) _ _ _ (by omega) ⟨l + 1, rfl, by omega, hF2, hT2, ?_, by omega⟩
        rcases hx with ⟨g1, g2⟩ | ⟨f, g1, g2, g3, g4, g5⟩
        · refine Or.inl ⟨g1, fun e he => ?_⟩
          by_cases c3 : e = l
          · rw [c3]; exact hc
          · exact g2 e (by omega)
        · refine Or.inr ⟨f, g1, by omega, g3, g4, fun e he hb => ?_⟩
          by_cases c3 : e = l
          · rw [c3, hc] at hb; cases hb
          · exact g5 e (by omega) hb
      · rw [tz_x2 (by decide)]
        have hdl := tz_s_pc h64 (k := l) (by omega) hc
        have hgr := tz_gf_r hs hn6 ha (f := l) (by omega)
        have hW2 : tz_W B (m2.1 165) := by rw [hrow2]; exact hW
        refine tm_costFirst (a := k) (f := l) hW2 (by rw [hrow2, hnd]; omega) (by rw [hrow2, hnd]; omega) hc ?_
        rw [hrow2, hsd, tz_s_sb h64 (by omega) hc, tz_n (x := ((tz_dl k l : Nat) : Int)) (by omega) (by omega), tz_p ⟨by omega, by omega⟩, (hT2 (tz_dl k l) (by omega) (tz_s_dlt hn6 ha)).1]
        rw [show tz_dis s l (tz_dl k l) 6 + tz_G s n (tz_dl k l) = tz_gf s n k l from Int.add_comm _ _]
        rw [tz_n (x := (k : Int)) (by omega) (by omega), tz_p ⟨by omega, by omega⟩]
        -- the member becomes the first
        have hbet : (∀ e : Nat, e < l → k.testBit e = true → tz_gf s n k l < tz_gf s n k e ∨ (tz_gf s n k l = tz_gf s n k e ∧ id l ≤ id e)) → wX12_ranks_B116 (fun y m => k0 y m) k1 Qv (k : Int) (l : Int) (tz_gf s n k l) m2 := fun hb => by
          simp only [wX12_ranks_B116, wX12_ranks_B121, wX12_ranks_B135, wX12_ranks_B147, forall_eq]
          rw [tz_n1, tz_n (x := (k : Int)) (by omega) (by omega), tz_x (by decide), tz_p ⟨by omega, by omega⟩, tz_x (by decide), tz_p ⟨by omega, by omega⟩]
          refine hk2 (d2 - 1) _ _ _ (by omega) ⟨l + 1, rfl, by omega, tz_fr_si (Or.inl rfl) (tz_fr_si (Or.inr rfl) hF2), fun b h1 h2 => ⟨?_, fun h3 => ?_⟩, Or.inr ⟨l, ?_, by omega, hc, tz_si_a, fun e he hbe => ?_⟩, by omega⟩
          · rw [tz_si_k (by omega), ts_si_ne (by decide)]; exact (hT2 b h1 h2).1
          · rw [ts_si_ne (by decide), tz_si_k (by omega)]; exact (hT2 b h1 h2).2 h3
          · rw [ts_si_ne (by decide), tz_si_a]
          · by_cases c3 : e = l
            · rw [c3]; exact Or.inr ⟨rfl, Int.le_refl _⟩
            · exact hb e (by omega) hbe
        have hsame : (∃ f : Nat, m2.1 171 (k : Int) = (f : Int) ∧ f < l ∧ k.testBit f = true ∧ m2.1 170 (k : Int) = tz_gf s n k f ∧ (∀ e : Nat, e < l → k.testBit e = true → tz_gf s n k f < tz_gf s n k e ∨ (tz_gf s n k f = tz_gf s n k e ∧ id f ≤ id e)) ∧ (tz_gf s n k f < tz_gf s n k l ∨ (tz_gf s n k f = tz_gf s n k l ∧ id f ≤ id l))) → wX12_ranks_B120 (fun y m => k0 y m) k1 Qv (k : Int) (l : Int) (tz_gf s n k l) m2 := fun ⟨f, g1, g2, g3, g4, g5, g6⟩ => by
          simp only [wX12_ranks_B120, wX12_ranks_B121, wX12_ranks_B135, wX12_ranks_B147, forall_eq]
          rw [tz_n0, tz_y rfl, tz_y rfl]
          refine hk2 (d2 - 1) _ _ _ (by omega) ⟨l + 1, rfl, by omega, hF2, hT2, Or.inr ⟨f, g1, by omega, g3, g4, fun e he hbe => ?_⟩, by omega⟩
          by_cases c3 : e = l
          · rw [c3]; exact g6
          · exact g5 e (by omega) hbe
        rcases hx with ⟨g1, g2⟩ | ⟨f, g1, g2, g3, g4, g5⟩
        · rw [g1, tz_nm, tz_y (by decide)]
          exact hbet (fun e he hb => by rw [g2 e he] at hb; cases hb)
        · have hfr := tz_gf_r hs hn6 ha (f := f) (by omega)
          have i1 := hI.1 f (by omega)
          have i2 := hI.1 l (by omega)
          rw [g4, tz_n (x := tz_gf s n k f) (by omega) (by omega), tz_n (x := tz_gf s n k l) (by omega) (by omega), tz_x (by omega), tz_p ⟨by omega, by omega⟩]
          by_cases c3 : tz_gf s n k l < tz_gf s n k f
          · rw [tz_y c3]
            exact hbet (fun e he hb => by have := g5 e he hb; omega)
          · rw [tz_x c3, tz_p ⟨by omega, by omega⟩]
            by_cases c4 : tz_gf s n k l = tz_gf s n k f
            · rw [tz_y2 (by omega), tm_idAt (by omega) (by omega), tz_p ⟨by omega, by omega⟩, g1, tm_idAt (by omega) (by omega), hrow2]
              rw [show tz_pi (M.1 165) (f : Int) = id f by rw [← hidd]; rfl, show tz_pi (M.1 165) (l : Int) = id l by rw [← hidd]; rfl, tz_n (x := id f) (by omega) (by omega), tz_n (x := id l) (by omega) (by omega)]
              by_cases c5 : id f ≤ id l
              · rw [tz_y c5]
                exact hsame ⟨f, g1, g2, g3, g4, g5, Or.inr ⟨c4.symm, c5⟩⟩
              · rw [tz_x c5]
                exact hbet (fun e he hb => by have := g5 e he hb; omega)
            · rw [tz_x2 c4]
              exact hsame ⟨f, g1, g2, g3, g4, g5, Or.inl (by omega)⟩
theorem tm_fewest (hW : tz_W B (M.1 165)) (hB : B ≤ 1000000000) (hQ : ∀ M' : ts_M, tz_fr (fun a => a = 170 ∨ a = 171) (ts_si M 164 0 0) M' → Q (tz_G (tz_ss (M.1 165)) (tz_nn (M.1 165)) (2 ^ tz_nn (M.1 165) - 1)) M') : wX12_fewestDisagreements Q M := by
  obtain ⟨hn1, hn6⟩ := tz_nn_6 hW
  have hp := tz_s_p1 hn6
  simp only [wX12_fewestDisagreements, forall_eq]
  have e1 : (ts_si M 164 0 0).1 165 = M.1 165 := ts_si_ne (by decide)
  refine tm_ranks (B := B) (by rw [e1]; exact hW) hB (fun M' hF hT => ?_)
  rw [e1] at hT
  have hrow : M'.1 165 = M.1 165 := by rw [(hF.1 165 (by decide)).1, e1]
  rw [hrow, ← hn1, tz_s_one (by omega), show ((2 ^ tz_nn (M.1 165) : Nat) : Int) - 1 = ((2 ^ tz_nn (M.1 165) - 1 : Nat) : Int) by omega, tz_n (x := ((2 ^ tz_nn (M.1 165) - 1 : Nat) : Int)) (by omega) (by omega), tz_p ⟨by omega, by omega⟩, (hT _ (by omega) (by omega)).1]
  exact hQ M' hF
theorem tm_fewest2 (hW : tz_W B (M.1 165)) (hB : B ≤ 1000000000) (hQ : ∀ M' : ts_M, tz_fr (fun a => a = 170 ∨ a = 171) (ts_si M 164 0 0) M' → Q (tz_G (tz_ss (M.1 165)) (tz_nn (M.1 165)) (2 ^ tz_nn (M.1 165) - 1)) M') : wX12_fewestDisagreementsByOrders Q M := by
  unfold wX12_fewestDisagreementsByOrders
  exact tm_fewest hW hB hQ
theorem tm_bestOrder (hW : tz_W B (M.1 165)) (hB : B ≤ 1000000000) (h1 : ts_w p = p) (h0 : ¬ (0 ≤ p ∧ p < M.1 165 1) → Q 0 (ts_si (ts_si M 164 0 0) 164 0 1)) (hQ : 0 ≤ p → p < M.1 165 1 → ∀ M' : ts_M, tz_fr (fun a => a = 170 ∨ a = 171) (ts_si M 164 0 0) M' → Q (tz_id (M.1 165) (tz_bq (tz_ss (M.1 165)) (tz_nn (M.1 165)) (tz_id (M.1 165)) (tz_lv (tz_ss (M.1 165)) (tz_nn (M.1 165)) (tz_id (M.1 165)) p.toNat))) M') : wX12_bestOrder p Q M := by
  obtain ⟨hn1, hn6⟩ := tz_nn_6 hW
  have hp := tz_s_p1 hn6
  have e1 : (ts_si M 164 0 0).1 165 = M.1 165 := ts_si_ne (by decide)
  simp only [wX12_bestOrder, forall_eq]
  rw [e1, tm_isBetween h1 tz_n0 (tz_n (by omega) (by omega)), tz_iw, tz_iz]
  by_cases c1 : 0 ≤ p ∧ p < M.1 165 1
  · rw [show tz_in 0 p (M.1 165 1 - 1) = true from tz_in_t.mpr ⟨c1.1, by omega⟩, tz_x2 (by decide)]
    refine tm_ranks (B := B) (by rw [e1]; exact hW) hB (fun M' hF hT => ?_)
    rw [e1] at hT
    have hrow : M'.1 165 = M.1 165 := by rw [(hF.1 165 (by decide)).1, e1]
    have hI := tz_id_ID hW hB
    have hs := tz_ss_sv (n := tz_nn (M.1 165)) hW
    have hQ2 := hQ c1.1 c1.2 M' hF
    obtain ⟨q, rfl⟩ : ∃ q : Nat, p = (q : Int) := ⟨p.toNat, by omega⟩
    rw [show ((q : Int)).toNat = q from rfl] at hQ2
    have hfi : ∀ i : Nat, i < tz_nn (M.1 165) → tz_pi (M.1 165) (i : Int) = tz_id (M.1 165) i := fun i _ => rfl
    rw [hrow, ← hn1, tz_s_one (by omega), show ((2 ^ tz_nn (M.1 165) : Nat) : Int) - 1 = ((2 ^ tz_nn (M.1 165) - 1 : Nat) : Int) by omega]
    rw [← hn1] at c1
    generalize tz_ss (M.1 165) = s at *
    generalize tz_id (M.1 165) = id at *
    generalize tz_nn (M.1 165) = n at *
    refine tz_ex3 (fun d x1 x2 x3 m => ∃ j : Nat, x1 = (q : Int) ∧ x2 = ((tz_lv s n id j : Nat) : Int) ∧ x3 = (j : Int) ∧ m = M' ∧ j + d = q) q ⟨0, rfl, rfl, rfl, rfl, by omega⟩ ?_
    rintro k0 d x1 x2 x3 m ⟨j, rfl, rfl, rfl, rfl, hd⟩ hk
    obtain ⟨g1, g2, g3⟩ := tz_lv_bo (k := j) hI hs hn6 (by omega)
    obtain ⟨f, f1, f2⟩ := (hT _ (tz_s_64 hn6 g2) g2).2 g1
    have hfe := tz_bq_eq hI f2
    have hfn := f2.1
    have h64 := tz_s_64 hn6 g2
    simp only [wX12_bestOrder_L44, forall_eq]
    rw [tz_n (x := (q : Int)) (by omega) (by omega), tz_n (x := (j : Int)) (by omega) (by omega), tz_n (x := ((tz_lv s n id j : Nat) : Int)) (by omega) (by omega), f1]
    by_cases c2 : j = q
    · rw [tz_y (by omega), tz_p ⟨by omega, by omega⟩, tm_idAt (by omega) (by omega), hrow, hfi f hfn]
      rw [← c2, hfe] at hQ2
      exact hQ2
    · rw [tz_x (by omega), tz_p ⟨by omega, by omega⟩]
      refine hk (d - 1) _ _ _ _ (by omega) ⟨j + 1, rfl, ?_, by omega, rfl, by omega⟩
      rw [tz_s_sb h64 (by omega) f2.2.1]
      show _ = ((tz_dl (tz_lv s n id j) (tz_bq s n id (tz_lv s n id j)) : Nat) : Int)
      rw [hfe]
  · rw [show tz_in 0 p (M.1 165 1 - 1) = false from tz_in_f.mpr (by omega), tz_y2 (by decide)]
    simp only [wX12_fails, forall_eq]
    exact h0 c1
end TZU
