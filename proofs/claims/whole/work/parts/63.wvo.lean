/-! ===== what motions and votes keep of a row ===== -/
section TZX
variable {B B2 : Int} {w w2 : Int → Int}
theorem tz_mo_ge (h : tz_W3 w) : ∀ n : Nat, (n : Int) < w 3 → (n : Int) ≤ tz_mo w (n : Int)
  | 0, h1 => (h.2.2.1 0 (by omega) h1).1
  | n + 1, h1 => by
    have h2 := tz_mo_ge h n (by omega)
    have h3 := h.2.2.2.1 (n : Int) ((n + 1 : Nat) : Int) (by omega) (by omega) h1
    omega
theorem tz_adm_top (hW : tz_W B w) {k : Int} (h : tz_adm w k = true) (h2 : k ≤ 4) : w 3 < 5 ∧ (w 3 = 0 → k = 0 ∨ k = 4) ∧ (w 3 ≠ 0 → tz_top w < k ∧ k ≠ 0) := by
  have e := tz_W_3 hW
  unfold tz_adm at h
  by_cases c1 : k = 0
  · rw [if_pos c1] at h
    have c2 := of_decide_eq_true h
    exact ⟨by omega, fun _ => Or.inl c1, fun h3 => absurd c2 h3⟩
  · rw [if_neg c1] at h
    by_cases c2 : w 3 = 0
    · rw [if_pos c2] at h
      exact ⟨by omega, fun _ => Or.inr (of_decide_eq_true h), fun h3 => absurd c2 h3⟩
    · rw [if_neg c2] at h
      have c3 := of_decide_eq_true ((Bool.and_eq_true _ _).mp h).1
      refine ⟨?_, fun h3 => absurd h3 c2, fun _ => ⟨c3, c1⟩⟩
      have c6 := e.1
      have c4 : tz_top w = tz_mo w (w 3 - 1) := by unfold tz_top; rw [if_neg c2]
      have c5 := tz_mo_ge e (w 3 - 1).toNat (by omega)
      rw [Int.toNat_of_nonneg (by omega)] at c5
      omega
/-- a motion put on the table -/
theorem tz_k_make {k : Int} (h : tz_W B w) (hr : ∀ j : Int, ¬ (j = 60 ∧ k = 0) → ¬ (j = 61 ∧ k = 1) → w2 j = w j) (ha : tz_adm w k = true) (h1 : 0 ≤ k) (h2 : k ≤ 4) (hm : k = 0 → 0 ≤ tz_pl w (w2 60)) (hc : -20 ≤ w2 61 ∧ w2 61 ≤ 20) : tz_W (B + 9) (to_make w2 k) := by
  have q3 : w2 3 = w 3 := hr 3 (by omega) (by omega)
  have o : ∀ j : Int, ¬ (j = 3 ∨ j = 55 + w 3) → ¬ (j = 60 ∧ k = 0) → ¬ (j = 61 ∧ k = 1) → to_make w2 k j = w j := fun j h3 h4 h5 => by rw [to_make_o (by rw [q3]; exact h3), hr j h4 h5]
  obtain ⟨c1, c2, c3, c4, c5, c6, c7⟩ := tz_W_3 h
  have ha2 := tz_adm_top h ha h2
  have r3 : to_make w2 k 3 = w 3 + 1 := by unfold to_make; rw [tz_fu_e, q3]
  have rk : tz_mo (to_make w2 k) (w 3) = k := by unfold tz_mo to_make; rw [q3, tz_fu_n (by omega), tz_fu_e]
  have ok : ∀ j : Int, 0 ≤ j → j < w 3 → tz_mo (to_make w2 k) j = tz_mo w j := fun j h3 h4 => o (55 + j) (by omega) (by omega) (by omega)
  have tl : ∀ j : Int, 0 ≤ j → j < w 3 → tz_mo w j < k := fun j h3 h4 => by
    have h5 := (ha2.2.2 (by omega)).1
    unfold tz_top at h5
    rw [if_neg (by omega)] at h5
    by_cases h6 : j = w 3 - 1
    · rw [h6]; exact h5
    · have := c4 j (w 3 - 1) h3 (by omega) (by omega); omega
  refine tz_W_of (tz_W1_c (tz_W_1 h) (by omega) (fun j h3 => o j (by omega) (by omega) (by omega))) (tz_W2_c (tz_W_2 h) (by omega) (fun j h3 => o j (by omega) (by omega) (by omega))) ?_ ?_ (tz_W4_c (tz_W_4 h) (fun j h3 h4 => o j (by omega) (by omega) (by omega))) (tz_W5_c (tz_W_5 h) (by omega) (fun j h3 => o j (by omega) (by omega) (by omega)))
  · unfold tz_W3
    rw [r3, o 4 (by omega) (by omega) (by omega), to_make_o (w := w2) (k := k) (j := 61) (by omega)]
    refine ⟨by omega, c2, fun j h3 h4 => ?_, fun i j h3 h4 h5 => ?_, fun _ => ?_, hc, fun h3 => by omega⟩
    · by_cases h5 : j = w 3
      · rw [h5, rk]; omega
      · rw [ok j h3 (by omega)]; exact c3 j h3 (by omega)
    · rw [ok i h3 (by omega)]
      by_cases h6 : j = w 3
      · rw [h6, rk]; exact tl i h3 (by omega)
      · rw [ok j (by omega) (by omega)]; exact c4 i j h3 h4 (by omega)
    · by_cases h6 : w 3 = 0
      · rw [h6] at rk; rw [rk]; exact ha2.2.1 h6
      · rw [ok 0 (by omega) (by omega)]; exact c5 (by omega)
  · have hM := tz_W_M h
    unfold tz_WM
    rw [r3, o 1 (by omega) (by omega) (by omega), to_make_o (w := w2) (k := k) (j := 60) (by omega)]
    intro h3 h4
    have e1 : ∀ i : Int, 0 ≤ i → i < w 1 → tz_pi (to_make w2 k) i = tz_pi w i := fun i h5 h6 => o (43 + 2 * i) (by have := (tz_W_2 h).1; omega) (by have := (tz_W_2 h).1; omega) (by have := (tz_W_2 h).1; omega)
    by_cases h6 : w 3 = 0
    · rw [h6] at rk
      have h7 : k = 0 := rk.symm.trans h4
      rcases tz_pl_rng (w := w) (v := w2 60) (tz_W_2 h).1.2 with h8 | h8
      · have := hm h7; omega
      · exact ⟨_, h8.1, h8.2.1, (e1 _ h8.1 h8.2.1).trans h8.2.2⟩
    · rw [ok 0 (by omega) (by omega)] at h4
      obtain ⟨i, i1, i2, i3⟩ := hM (by omega) h4
      refine ⟨i, i1, i2, (e1 i i1 i2).trans (i3.trans (hr 60 ?_ (by omega)).symm)⟩
      intro h7
      exact (ha2.2.2 h6).2 h7.2
/-- the table emptied -/
theorem tz_k_emp (h1 : tz_W1 B w) (h2 : tz_W2 B w) (h4 : tz_W4 w) (h5 : tz_W5 B w) : tz_W B (to_emp w) := by
  obtain ⟨a1, a2, a3, a4, a5, a6⟩ := h1
  have o : ∀ j : Int, ¬ ((55 ≤ j ∧ j < 62) ∨ j = 3 ∨ j = 4 ∨ (14 ≤ j ∧ j < 14 + 4 * w 0 ∧ (j - 14) % 4 = 0)) → to_emp w j = w j := fun j h => to_emp_o h
  have z3 : to_emp w 3 = 0 := to_emp_z (by omega)
  have z4 : to_emp w 4 = 0 := to_emp_z (by omega)
  have z61 : to_emp w 61 = 0 := to_emp_z (by omega)
  refine tz_W_of ?_ (tz_W2_c h2 (Int.le_refl _) (fun j h3 => o j (by omega))) ?_ ?_ (tz_W4_c h4 (fun j h3 h4 => o j (by omega))) (tz_W5_c h5 (Int.le_refl _) (fun j h3 => o j (by omega)))
  · have e0 := o 0 (by omega)
    have ea : ∀ s k : Int, 0 ≤ s → s < 8 → 0 ≤ k → k ≤ 2 → tz_a (to_emp w) s k = tz_a w s k := fun s k h1 h2 h3 h4 => o _ (by omega)
    unfold tz_W1
    rw [e0, o 9 (by omega), o 10 (by omega)]
    refine ⟨a1, a2, a3, fun s h6 h7 => ?_, fun s h6 h7 => ?_, ?_⟩
    · have h8 := a4 s h6 h7
      have z : tz_a (to_emp w) s 3 = 0 := to_emp_z (by omega)
      rw [ea s 0 h6 (by omega) (by omega) (by omega), ea s 1 h6 (by omega) (by omega) (by omega), ea s 2 h6 (by omega) (by omega) (by omega), z]
      omega
    · have z : tz_a (to_emp w) s 3 = tz_a w s 3 := o _ (by omega)
      rw [z]; exact a5 s h6 h7
    · rw [← a6]
      unfold tz_sug
      rw [e0]
      exact tz_sum_eq (fun i h6 h7 => ea i 2 h6 (by omega) (by omega) (by omega))
  · unfold tz_W3
    rw [z3, z4, z61]
    exact ⟨by omega, by omega, fun k h6 h7 => by omega, fun j k h6 h7 h8 => by omega, fun h6 => absurd h6 (by omega), by omega, fun _ => rfl⟩
  · unfold tz_WM
    rw [z3]
    intro h6; exact absurd h6 (by omega)
theorem tz_k_v1 (h : tz_W B w) : tz_W (B + 1) (to_v1 w) := by
  have o : ∀ j : Int, j ≠ 7 → j ≠ 8 → to_v1 w j = w j := fun j h3 h4 => to_v1_o h3 h4
  refine tz_W_of (tz_W1_c (tz_W_1 h) (by omega) (fun j h3 => o j (by omega) (by omega))) (tz_W2_c (tz_W_2 h) (by omega) (fun j h3 => o j (by omega) (by omega))) (tz_W3_c (tz_W_3 h) (fun j h3 => o j (by omega) (by omega))) (tz_WM_c (tz_W_M h) (tz_W_2 h).1.2 (fun j h3 => o j (by omega) (by omega))) (tz_W4_c (tz_W_4 h) (fun j h3 h4 => o j (by omega) (by omega))) ?_
  obtain ⟨d1, d2, d3, d4⟩ := tz_W_5 h
  have e : 0 ≤ tz_i (tz_ado w) ∧ tz_i (tz_ado w) ≤ 1 := by cases tz_ado w <;> decide
  unfold tz_W5
  rw [o 5 (by omega) (by omega), o 6 (by omega) (by omega), to_v1_7, to_v1_8]
  omega
theorem to_rtop_3 (h1 : 1 ≤ w 3) : to_rtop w 3 = w 3 - 1 := by
  unfold to_rtop
  by_cases c1 : w 3 = 1
  · rw [if_pos c1, to_emp_z (by omega), c1]; rfl
  · rw [if_neg c1, tz_fu_n (by omega), tz_fu_e]
theorem to_rtop_o {j : Int} (h0 : 0 ≤ w 0 ∧ w 0 ≤ 8) (h1 : 1 ≤ w 3 ∧ w 3 ≤ 5) (h2 : ¬ (j = 3 ∨ j = 55 + (w 3 - 1))) (h3 : w 3 = 1 → ¬ ((55 ≤ j ∧ j < 62) ∨ j = 4 ∨ (14 ≤ j ∧ j < 43 ∧ (j - 14) % 4 = 0))) : to_rtop w j = w j := by
  unfold to_rtop
  by_cases c1 : w 3 = 1
  · have h4 := h3 c1
    have e0 : ts_fu (ts_fu w 3 (w 3 - 1)) (55 + (w 3 - 1)) 0 0 = w 0 := by rw [tz_fu_n (by omega), tz_fu_n (by omega)]
    rw [if_pos c1, to_emp_o (by rw [e0]; omega), tz_fu_n (by omega), tz_fu_n (by omega)]
  · rw [if_neg c1, tz_fu_n (by omega), tz_fu_n (by omega)]
theorem tz_k_rtop (h : tz_W B w) (h1 : 1 ≤ w 3) : tz_W B (to_rtop w) := by
  have g0 := h.1
  obtain ⟨c1, c2, c3, c4, c5, c6, c7⟩ := tz_W_3 h
  have o : ∀ j : Int, ¬ (j = 3 ∨ (55 ≤ j ∧ j < 60)) → ts_fu (ts_fu w 3 (w 3 - 1)) (55 + (w 3 - 1)) 0 j = w j := fun j h3 => by rw [tz_fu_n (by omega), tz_fu_n (by omega)]
  have p1 : tz_W1 B (ts_fu (ts_fu w 3 (w 3 - 1)) (55 + (w 3 - 1)) 0) := tz_W1_c (tz_W_1 h) (Int.le_refl _) (fun j h3 => o j (by omega))
  have p2 : tz_W2 B (ts_fu (ts_fu w 3 (w 3 - 1)) (55 + (w 3 - 1)) 0) := tz_W2_c (tz_W_2 h) (Int.le_refl _) (fun j h3 => o j (by omega))
  have p4 : tz_W4 (ts_fu (ts_fu w 3 (w 3 - 1)) (55 + (w 3 - 1)) 0) := tz_W4_c (tz_W_4 h) (fun j h3 h4 => o j (by omega))
  have p5 : tz_W5 B (ts_fu (ts_fu w 3 (w 3 - 1)) (55 + (w 3 - 1)) 0) := tz_W5_c (tz_W_5 h) (Int.le_refl _) (fun j h3 => o j (by omega))
  unfold to_rtop
  by_cases b1 : w 3 = 1
  · rw [if_pos b1]; exact tz_k_emp p1 p2 p4 p5
  · rw [if_neg b1]
    have r3 : ts_fu (ts_fu w 3 (w 3 - 1)) (55 + (w 3 - 1)) 0 3 = w 3 - 1 := by rw [tz_fu_n (by omega), tz_fu_e]
    have ok : ∀ k : Int, 0 ≤ k → k < w 3 - 1 → tz_mo (ts_fu (ts_fu w 3 (w 3 - 1)) (55 + (w 3 - 1)) 0) k = tz_mo w k := fun k h3 h4 => by
      unfold tz_mo; rw [tz_fu_n (by omega), tz_fu_n (by omega)]
    refine tz_W_of p1 p2 ?_ ?_ p4 p5
    · unfold tz_W3
      rw [r3, o 4 (by omega), o 61 (by omega), ok 0 (by omega) (by omega)]
      refine ⟨by omega, c2, fun k h3 h4 => ?_, fun j k h3 h4 h5 => ?_, fun _ => c5 (by omega), c6, fun h3 => absurd h3 (by omega)⟩
      · rw [ok k h3 h4]; exact c3 k h3 (by omega)
      · rw [ok j h3 (by omega), ok k (by omega) h5]; exact c4 j k h3 h4 (by omega)
    · have hM := tz_W_M h
      have hl := (tz_W_2 h).1
      unfold tz_WM
      rw [r3, o 1 (by omega), o 60 (by omega), ok 0 (by omega) (by omega)]
      intro h3 h4
      obtain ⟨i, i1, i2, i3⟩ := hM (by omega) h4
      exact ⟨i, i1, i2, (o (43 + 2 * i) (by omega)).trans i3⟩
theorem tz_k_off {q : Int} (h : tz_W2 B w) (h1 : 0 ≤ q) (h2 : q < w 1) : tz_W2 B (to_off w q) := by
  obtain ⟨b1, b2, b3, b4⟩ := h
  have r1 : to_off w q 1 = w 1 - 1 := if_pos rfl
  have r2 : to_off w q 2 = w 2 := to_off_get (by omega) (by omega) h1 b1.2 (by omega)
  unfold tz_W2
  rw [r1, r2]
  refine ⟨by omega, b2, fun i h3 h4 => ?_, fun i j h3 h4 h5 => ?_⟩
  · rw [to_off_pi h3 h4, to_off_pp h3 h4]
    by_cases c1 : q ≤ i
    · rw [if_pos c1, if_pos c1]; exact b3 (i + 1) (by omega) (by omega)
    · rw [if_neg c1, if_neg c1]; exact b3 i h3 (by omega)
  · rw [to_off_pi h3 (by omega), to_off_pi (by omega) h5]
    by_cases c1 : q ≤ i
    · rw [if_pos c1, if_pos (by omega)]; exact b4 (i + 1) (j + 1) (by omega) (by omega) (by omega)
    · rw [if_neg c1]
      by_cases c2 : q ≤ j
      · rw [if_pos c2]; exact b4 i (j + 1) h3 (by omega) (by omega)
      · rw [if_neg c2]; exact b4 i j h3 h4 (by omega)
/-- a proposal moved to the end of the list -/
theorem tz_k_end {q p : Int} (h : tz_W2 B w) (h1 : 0 ≤ q) (h2 : q < w 1) (h3 : 0 ≤ p ∧ p ≤ 99) : tz_W2 B (to_lists (to_off w q) (tz_pi w q) p) := by
  have h' := tz_k_off h h1 h2
  obtain ⟨b1, b2, b3, b4⟩ := h
  obtain ⟨c1, c2, c3, c4⟩ := h'
  have r1 : to_off w q 1 = w 1 - 1 := if_pos rfl
  have r2 : to_off w q 2 = w 2 := to_off_get (by omega) (by omega) h1 b1.2 (by omega)
  rw [r1] at c1 c3 c4
  rw [r2] at c2 c3
  have o : ∀ j : Int, ¬ (j = 1 ∨ j = 43 + 2 * (w 1 - 1) ∨ j = 43 + 2 * (w 1 - 1) + 1) → to_lists (to_off w q) (tz_pi w q) p j = to_off w q j := fun j h4 => by
    unfold to_lists; rw [r1, tz_fu_n (by omega), tz_fu_n (by omega), tz_fu_n (by omega)]
  have s1 : to_lists (to_off w q) (tz_pi w q) p 1 = w 1 := by unfold to_lists; rw [tz_fu_e, r1]; omega
  have si : tz_pi (to_lists (to_off w q) (tz_pi w q) p) (w 1 - 1) = tz_pi w q := by
    conv => lhs; unfold tz_pi to_lists
    rw [r1, tz_fu_n (by omega), tz_fu_n (by omega), tz_fu_e]
    rfl
  have sp : tz_pp (to_lists (to_off w q) (tz_pi w q) p) (w 1 - 1) = p := by
    conv => lhs; unfold tz_pp to_lists
    rw [r1, tz_fu_n (by omega), tz_fu_e]
  have oi : ∀ i : Int, 0 ≤ i → i < w 1 - 1 → tz_pi (to_lists (to_off w q) (tz_pi w q) p) i = tz_pi (to_off w q) i := fun i h4 h5 => o _ (by omega)
  have op : ∀ i : Int, 0 ≤ i → i < w 1 - 1 → tz_pp (to_lists (to_off w q) (tz_pi w q) p) i = tz_pp (to_off w q) i := fun i h4 h5 => o _ (by omega)
  unfold tz_W2
  rw [s1, o 2 (by omega), r2]
  refine ⟨b1, b2, fun i h4 h5 => ?_, fun i j h4 h5 h6 => ?_⟩
  · by_cases k1 : i = w 1 - 1
    · subst k1; rw [si, sp]; exact ⟨(b3 q h1 h2).1, h3⟩
    · rw [oi i h4 (by omega), op i h4 (by omega)]; exact c3 i h4 (by omega)
  · rw [oi i h4 (by omega)]
    by_cases k1 : j = w 1 - 1
    · subst k1
      rw [si, to_off_pi h4 (by omega)]
      by_cases k2 : q ≤ i
      · rw [if_pos k2]; exact fun h => b4 q (i + 1) h1 (by omega) (by omega) h.symm
      · rw [if_neg k2]; exact b4 i q h4 (by omega) h2
    · rw [oi j (by omega) (by omega)]; exact c4 i j h4 h5 (by omega)
/-- rewards -/
theorem to_rew_2 : ∀ {n : Nat} {s : Int}, 0 ≤ s → s < (n : Int) → n ≤ 8 → tz_a (to_rew w n) s 2 = if tz_for w s then tz_a w s 2 + 2 else tz_a w s 2
  | 0, s, h1, h2, _ => by omega
  | n + 1, s, h1, h2, h3 => by
    by_cases c1 : s = (n : Int)
    · subst c1
      unfold to_rew
      by_cases c2 : tz_for w (n : Int) = true
      · rw [if_pos c2, if_pos c2]
        conv => lhs; unfold tz_a
        rw [tz_fu_n (by omega), tz_fu_e]
        rfl
      · rw [if_neg c2, if_neg c2]; exact to_rew_at (Int.le_refl _)
    · have ih := to_rew_2 (n := n) (s := s) h1 (by omega) (by omega)
      rw [← ih]
      conv => lhs; unfold to_rew
      split
      · unfold tz_a; rw [tz_fu_n (by omega), tz_fu_n (by omega)]
      · rfl
theorem to_rew_sum : ∀ {n : Nat}, n ≤ 8 → tz_sum (fun s => tz_a (to_rew w n) s 2) n = tz_sum (fun s => tz_a w s 2) n + (to_rew w n 9 - w 9) ∧ 0 ≤ to_rew w n 9 - w 9 ∧ to_rew w n 9 - w 9 ≤ 2 * (n : Int)
  | 0, _ => by
    have : to_rew w 0 9 = w 9 := rfl
    rw [this]; simp [tz_sum]
  | n + 1, h1 => by
    have ih := to_rew_sum (n := n) (by omega)
    have e1 : tz_sum (fun s => tz_a (to_rew w (n + 1)) s 2) n = tz_sum (fun s => tz_a (to_rew w n) s 2) n := tz_sum_eq (fun i h2 h3 => by
      show tz_a (to_rew w (n + 1)) i 2 = tz_a (to_rew w n) i 2
      rw [to_rew_2 h2 (by omega) (by omega), to_rew_2 h2 h3 (by omega)])
    have e2 := to_rew_2 (w := w) (n := n + 1) (s := (n : Int)) (by omega) (by omega) h1
    have e3 : to_rew w (n + 1) 9 = if tz_for w (n : Int) then to_rew w n 9 + 2 else to_rew w n 9 := by
      conv => lhs; unfold to_rew
      split
      · rw [tz_fu_e]
      · rfl
    show tz_sum (fun s => tz_a (to_rew w (n + 1)) s 2) n + tz_a (to_rew w (n + 1)) (n : Int) 2 = tz_sum (fun s => tz_a w s 2) n + tz_a w (n : Int) 2 + (to_rew w (n + 1) 9 - w 9) ∧ _
    rw [e1, e2, e3]
    split <;> omega
theorem tz_k_rew (h : tz_W1 B w) : tz_W1 (B + 2) (to_rew w (w 0).toNat) := by
  obtain ⟨a1, a2, a3, a4, a5, a6⟩ := h
  have g : ∀ j : Int, ¬ (j = 9 ∨ (13 ≤ j ∧ j < 13 + 4 * w 0 ∧ (j - 13) % 4 = 0)) → to_rew w (w 0).toNat j = w j := fun j h1 => to_rew_get _ _ (by omega)
  have e := to_rew_sum (w := w) (n := (w 0).toNat) (by omega)
  have a7 : tz_sum (fun s => tz_a w s 2) (w 0).toNat = 5 * w 0 + w 9 - w 10 := a6
  unfold tz_W1
  rw [g 0 (by omega), g 10 (by omega)]
  refine ⟨a1, by omega, by omega, fun s h1 h2 => ?_, fun s h1 h2 => ?_, ?_⟩
  · have h3 := a4 s h1 h2
    have r0 : tz_a (to_rew w (w 0).toNat) s 0 = tz_a w s 0 := g _ (by omega)
    have r1 : tz_a (to_rew w (w 0).toNat) s 1 = tz_a w s 1 := g _ (by omega)
    have r3 : tz_a (to_rew w (w 0).toNat) s 3 = tz_a w s 3 := g _ (by omega)
    rw [r0, r1, r3, to_rew_2 h1 (by omega) (by omega)]
    split <;> omega
  · have r3 : tz_a (to_rew w (w 0).toNat) s 3 = tz_a w s 3 := g _ (by omega)
    rw [r3]; exact a5 s h1 h2
  · unfold tz_sug
    rw [g 0 (by omega), e.1, a7]; omega
end TZX
