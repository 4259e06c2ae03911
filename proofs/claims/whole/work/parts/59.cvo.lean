/-! ===== the class: speeches, gifts, motions, proposals; what a vote is made of ===== -/
section TZG
variable {p p1 p2 p3 lo up B v : Int} {Q : Int → ts_M → Prop} {Qv : ts_M → Prop} {M M' M'' : ts_M} {b : Nat} {w w2 : Int → Int}
theorem to_speak_o {j : Int} (h1 : ¬ (j = 10 ∨ j = 11 + 4 * p + 2 ∨ j = 11 + 4 * p + 3)) : to_speak w p j = w j := by
  unfold to_speak
  rw [tz_fu_n (by omega), tz_fu_n (by omega), tz_fu_n (by omega)]
theorem tc_letSpeak (hW : tz_W B w) (hS : tz_S b M w) (h1 : 0 ≤ p) (h2 : p < w 0) (hQ : ∀ M' : ts_M, tz_F b M M' → tz_S b M' (to_speak w p) → Q (tz_a w p 3 + 1) M') : wX8_letSpeak b p Q M := by
  obtain ⟨e0, e1, _, e3, _, _, _, _, _, _, _, _, ez, _⟩ := hW
  have s0 := hS.1
  obtain ⟨a1, a2, a3, a4⟩ := tz_S_1 hS
  have a5 := a2 p h1 h2
  have n0 : ts_w p = p := tz_n (by omega) (by omega)
  have n8 : 0 ≤ p ∧ p < ((8 : Nat) : Int) := ⟨h1, by omega⟩
  have hin : tz_in 0 p (w 0 - 1) = true := tz_in_t.mpr ⟨h1, by omega⟩
  unfold wX8_letSpeak
  rw [tc_has s0 n0 e0, hin, tz_i1, tz_x2 (by decide)]
  simp only [forall_eq, n0, tz_si_a]
  rw [tz_p n8, tz_p n8, tz_p n8, tz_p n8, tz_p n8]
  have r1 : (ts_si (ts_si M (b + 4) p (M.1 (b + 4) p - 1)) (b + 1) 7 ((ts_si M (b + 4) p (M.1 (b + 4) p - 1)).1 (b + 1) 7 + 1)).1 (b + 5) p = tz_a w p 3 := by
    rw [ts_si_ne (by omega), ts_si_ne (by omega)]; exact a5.2.2.2
  rw [r1]
  refine hQ _ (tz_F_si (by omega) (tz_F_si (by omega) (tz_F_si (by omega) tz_F_rfl))) ?_
  refine tz_S_of ?_ (tz_P2_c (tz_S_2 hS) e1.2 (fun c h2 h3 => ?_) (fun j h => to_speak_o (by omega))) (tz_P3_c (tz_S_3 hS) e3.2 (fun c h2 h3 => ?_) (fun j h => to_speak_o (by omega))) (tz_P4_c (tz_S_4 hS) rfl (fun j h h' => to_speak_o (by omega))) (tz_P5_c (tz_S_5 hS) ?_ ?_ (fun j h => to_speak_o (by omega)))
  · unfold tz_P1
    rw [to_speak_o (by omega), to_speak_o (by omega)]
    refine ⟨?_, fun s h3 h4 => ?_, ?_, ?_⟩
    · rw [ts_si_ne (by omega), tz_si_k (by omega), ts_si_ne (by omega)]; exact a1
    · have h5 := a2 s h3 h4
      unfold tz_a at h5 ⊢
      rw [to_speak_o (by omega), to_speak_o (by omega)]
      refine ⟨?_, ?_, ?_, ?_⟩
      · rw [ts_si_ne (by omega), ts_si_ne (by omega), ts_si_ne (by omega)]; exact h5.1
      · rw [ts_si_ne (by omega), ts_si_ne (by omega), ts_si_ne (by omega)]; exact h5.2.1
      · rw [ts_si_ne (by omega), ts_si_ne (by omega)]
        by_cases c1 : s = p
        · subst c1
          rw [tz_si_a, h5.2.2.1]
          unfold to_speak
          rw [tz_fu_n (by omega), tz_fu_n (by omega), tz_fu_e]
          rfl
        · rw [tz_si_k c1, h5.2.2.1, to_speak_o (by omega)]
      · by_cases c1 : s = p
        · subst c1
          rw [tz_si_a]
          unfold to_speak
          rw [tz_fu_n (by omega), tz_fu_e]
          rfl
        · rw [tz_si_k c1, ts_si_ne (by omega), ts_si_ne (by omega), h5.2.2.2, to_speak_o (by omega)]
    · rw [ts_si_ne (by omega), tz_si_k (by omega), tz_si_k (by omega), ts_si_ne (by omega)]; exact a3
    · rw [ts_si_ne (by omega), tz_si_a, ts_si_ne (by omega), a4]
      unfold to_speak
      rw [tz_fu_e]
  · rw [ts_si_ne (by omega), ts_si_ne (by omega), ts_si_ne (by omega)]
  · rw [ts_si_ne (by omega), ts_si_ne (by omega), ts_si_ne (by omega)]
  · rw [ts_si_ne (by omega), ts_si_ne (by omega), ts_si_ne (by omega)]
  · rw [ts_si_ne (by omega), ts_si_ne (by omega), ts_si_ne (by omega)]
theorem to_sugar_o {j : Int} (h1 : ¬ (j = 9 ∨ j = 11 + 4 * p + 2)) : to_sugar w p p2 j = w j := by
  unfold to_sugar
  rw [tz_fu_n (by omega), tz_fu_n (by omega)]
theorem tc_give (hW : tz_W B w) (hS : tz_S b M w) (h1 : 0 ≤ p) (h2 : p < w 0) (hQ : ∀ M' : ts_M, tz_F b M M' → tz_S b M' (to_sugar w p p2) → Q (tz_a w p 2 + p2) M') : wX8_give b p p2 Q M := by
  obtain ⟨e0, e1, _, e3, _, _, _, _, _, _, _, _, ez, _⟩ := hW
  have s0 := hS.1
  obtain ⟨a1, a2, a3, a4⟩ := tz_S_1 hS
  have a5 := a2 p h1 h2
  have n0 : ts_w p = p := tz_n (by omega) (by omega)
  have n8 : 0 ≤ p ∧ p < ((8 : Nat) : Int) := ⟨h1, by omega⟩
  have hin : tz_in 0 p (w 0 - 1) = true := tz_in_t.mpr ⟨h1, by omega⟩
  unfold wX8_give
  rw [tc_has s0 n0 e0, hin, tz_i1, tz_x2 (by decide)]
  simp only [forall_eq, n0]
  rw [tz_p n8, tz_p n8, tz_p n8]
  have r1 : (ts_si (ts_si M (b + 4) p (M.1 (b + 4) p + p2)) (b + 1) 5 ((ts_si M (b + 4) p (M.1 (b + 4) p + p2)).1 (b + 1) 5 + p2)).1 (b + 4) p = tz_a w p 2 + p2 := by
    rw [ts_si_ne (by omega), tz_si_a, a5.2.2.1]
  rw [r1]
  refine hQ _ (tz_F_si (by omega) (tz_F_si (by omega) tz_F_rfl)) ?_
  refine tz_S_of ?_ (tz_P2_c (tz_S_2 hS) e1.2 (fun c h2 h3 => ?_) (fun j h => to_sugar_o (by omega))) (tz_P3_c (tz_S_3 hS) e3.2 (fun c h2 h3 => ?_) (fun j h => to_sugar_o (by omega))) (tz_P4_c (tz_S_4 hS) rfl (fun j h h' => to_sugar_o (by omega))) (tz_P5_c (tz_S_5 hS) ?_ ?_ (fun j h => to_sugar_o (by omega)))
  · unfold tz_P1
    rw [to_sugar_o (j := 0) (by omega), to_sugar_o (j := 10) (by omega)]
    refine ⟨?_, fun s h3 h4 => ?_, ?_, ?_⟩
    · rw [tz_si_k (by omega), ts_si_ne (by omega)]; exact a1
    · have h5 := a2 s h3 h4
      unfold tz_a at h5 ⊢
      rw [to_sugar_o (j := 11 + 4 * s + 0) (by omega), to_sugar_o (j := 11 + 4 * s + 1) (by omega), to_sugar_o (j := 11 + 4 * s + 3) (by omega)]
      refine ⟨?_, ?_, ?_, ?_⟩
      · rw [ts_si_ne (by omega), ts_si_ne (by omega)]; exact h5.1
      · rw [ts_si_ne (by omega), ts_si_ne (by omega)]; exact h5.2.1
      · rw [ts_si_ne (by omega)]
        by_cases c1 : s = p
        · subst c1
          rw [tz_si_a, h5.2.2.1]
          unfold to_sugar
          rw [tz_fu_n (by omega), tz_fu_e]
          rfl
        · rw [tz_si_k c1, h5.2.2.1, to_sugar_o (by omega)]
      · rw [ts_si_ne (by omega), ts_si_ne (by omega)]; exact h5.2.2.2
    · rw [tz_si_a, tz_si_k (by omega), ts_si_ne (by omega)]
      unfold to_sugar
      rw [tz_fu_e]; omega
    · rw [tz_si_k (by omega), ts_si_ne (by omega)]; exact a4
  · rw [ts_si_ne (by omega), ts_si_ne (by omega)]
  · rw [ts_si_ne (by omega), ts_si_ne (by omega)]
  · rw [ts_si_ne (by omega), ts_si_ne (by omega)]
  · rw [ts_si_ne (by omega), ts_si_ne (by omega)]
/-- a motion is put on the table -/
theorem to_make_o {k j : Int} (h1 : ¬ (j = 3 ∨ j = 55 + w 3)) : to_make w k j = w j := by
  unfold to_make; rw [tz_fu_n (by omega), tz_fu_n (by omega)]
theorem tc_put {k : Int} (h1 : M.1 (b + 9) 1 = w 3) (h0 : 0 ≤ w 3) (h2 : w 3 < 5) (hQ : Q (w 3 + 1) (ts_si (ts_si M (b + 10) (w 3) k) (b + 9) 1 (w 3 + 1))) : wX10_put b k Q M := by
  have n0 : ts_w (w 3) = w 3 := tz_n (by omega) (by omega)
  have n5 : 0 ≤ w 3 ∧ w 3 < ((5 : Nat) : Int) := ⟨h0, by omega⟩
  have r1 : ∀ v : Int, (ts_si M (b + 10) (w 3) v).1 (b + 9) 1 = w 3 := fun v => by rw [ts_si_ne (by omega), h1]
  simp only [wX10_put, wX10_put_B28, forall_eq, h1, n0, r1, tz_si_a]
  rw [tz_x (by omega), tz_p n5]
  exact hQ
/-- a motion k on the table of w; w2 is w, but for what the motion is about -/
theorem tc_putS {k : Int} (hW : tz_W B w) (hS : tz_S b M w) (h2 : w 3 < 5) (hk : k = 0 → w 3 = 0) (hm : ∀ a : Nat, M'.1 a = M.1 a ∨ a = b + 9) (hm2 : M'.2 = M.2) (hc : ∀ j : Int, ¬ (j = 2 ∨ j = 3) → M'.1 (b + 9) j = M.1 (b + 9) j) (h20 : M'.1 (b + 9) 2 = if k = 0 then w2 60 else M.1 (b + 9) 2) (h21 : M'.1 (b + 9) 3 = if k = 1 then w2 61 else M.1 (b + 9) 3) (hr : ∀ j : Int, ¬ (j = 60 ∧ k = 0) → ¬ (j = 61 ∧ k = 1) → w2 j = w j) (h1k : k = 1 → ∀ j : Int, 0 ≤ j → j < w 3 → tz_mo w j ≠ 1) (hQ : ∀ M'' : ts_M, tz_F b M M'' → tz_S b M'' (to_make w2 k) → Q (w 3 + 1) M'') : wX10_put b k Q M' := by
  have hW' := hW
  obtain ⟨e0, e1, _, e3, _, _, _, _, _, _, _, _, ez, _⟩ := hW'
  obtain ⟨a1, a2, a3, a4, a5⟩ := tz_S_3 hS
  have q3 : w2 3 = w 3 := hr 3 (by omega) (by omega)
  have hma : ∀ a : Nat, a ≠ b + 9 → M'.1 a = M.1 a := fun a h => by
    rcases hm a with h3 | h3
    · exact h3
    · exact absurd h3 h
  refine tc_put (w := w) (by rw [hc 1 (by omega)]; exact a1) e3.1 h2 (hQ _ ?_ ?_)
  · refine tz_F_si (by omega) (tz_F_si (by omega) ⟨fun a h => ⟨hma a (by omega), by rw [hm2]⟩, by rw [hm2]⟩)
  · have o1 : ∀ j : Int, ¬ (j = 3 ∨ j = 55 + w 3) → ¬ (j = 60 ∧ k = 0) → ¬ (j = 61 ∧ k = 1) → to_make w2 k j = w j := fun j h3 h4 h5 => by rw [to_make_o (by rw [q3]; exact h3), hr j h4 h5]
    refine tz_S_of (tz_P1_c (tz_S_1 hS) e0.2 (fun c h3 h4 => ?_) (fun j h => o1 j (by omega) (by omega) (by omega))) (tz_P2_c (tz_S_2 hS) e1.2 (fun c h3 h4 => ?_) (fun j h => o1 j (by omega) (by omega) (by omega))) ?_ (tz_P4_c (tz_S_4 hS) (by show M'.2.1 _ _ = _; rw [hm2]) (fun j h h' => o1 j (by omega) (by omega) (by omega))) (tz_P5_c (tz_S_5 hS) ?_ ?_ (fun j h => o1 j (by omega) (by omega) (by omega)))
    · rw [ts_si_ne (by omega), ts_si_ne (by omega), hma _ (by omega)]
    · rw [ts_si_ne (by omega), ts_si_ne (by omega), hma _ (by omega)]
    · have o2 : to_make w2 k 3 = w 3 + 1 := by unfold to_make; rw [tz_fu_e, q3]
      have o3 : tz_mo (to_make w2 k) (w 3) = k := by unfold tz_mo to_make; rw [q3, tz_fu_n (by omega), tz_fu_e]
      have o4 : ∀ j : Int, 0 ≤ j → j < w 3 → tz_mo (to_make w2 k) j = tz_mo w j := fun j h3 h4 => o1 (55 + j) (by omega) (by omega) (by omega)
      unfold tz_P3
      rw [o2]
      refine ⟨tz_si_a, fun h3 h4 => ?_, fun j h3 h4 h5 => ?_, ?_, fun j h3 h4 => ?_⟩
      · rw [tz_si_k (by omega), ts_si_ne (by omega), h20, to_make_o (by omega)]
        by_cases c1 : k = 0
        · rw [if_pos c1]
        · rw [if_neg c1]
          have h6 : 0 < w 3 := by
            by_cases c2 : w 3 = 0
            · rw [c2] at o3; exact absurd (o3.symm.trans h4) c1
            · omega
          rw [o4 0 (by omega) h6] at h4
          rw [a2 h6 h4]
          exact (hr 60 (by omega) (by omega)).symm
      · rw [tz_si_k (by omega), ts_si_ne (by omega), h21, to_make_o (by omega)]
        by_cases c1 : k = 1
        · rw [if_pos c1]
        · rw [if_neg c1]
          by_cases c2 : j = w 3
          · rw [c2, o3] at h5; exact absurd h5 c1
          · rw [o4 j h3 (by omega)] at h5
            rw [a3 j h3 (by omega) h5]
            exact (hr 61 (by omega) (by omega)).symm
      · rw [tz_si_k (by omega), ts_si_ne (by omega), hc 4 (by omega), a4]
        exact (o1 4 (by omega) (by omega) (by omega)).symm
      · rw [ts_si_ne (by omega)]
        by_cases c2 : j = w 3
        · rw [c2, tz_si_a, o3]
        · rw [tz_si_k c2, hma _ (by omega), a5 j h3 (by omega), o4 j h3 (by omega)]
    · rw [ts_si_ne (by omega), ts_si_ne (by omega), hma _ (by omega)]
    · rw [ts_si_ne (by omega), ts_si_ne (by omega), hma _ (by omega)]
/-- a proposal is put on the list -/
theorem tc_append (hP : tz_P2 b M w) (h0 : 0 ≤ w 1) (h1 : w 1 < 6) (hQ : ∀ M' : ts_M, (∀ a : Nat, a ≠ b + 6 → a ≠ b + 7 → a ≠ b + 8 → M'.1 a = M.1 a) → M'.2 = M.2 → tz_P2 b M' (to_lists w v p) → Qv M') : wX4_append b v p Qv M := by
  obtain ⟨a1, a2, a3⟩ := hP
  have n0 : ts_w (w 1) = w 1 := tz_n (by omega) (by omega)
  have n6 : 0 ≤ w 1 ∧ w 1 < ((6 : Nat) : Int) := ⟨h0, by omega⟩
  have r1 : ∀ (m : ts_M) (c : Nat) (k x : Int), c ≠ 6 → (ts_si m (b + c) k x).1 (b + 6) 2 = m.1 (b + 6) 2 := fun m c k x h => by rw [ts_si_ne (by omega)]
  simp only [wX4_append, wX4_append_B39, forall_eq, r1 _ 7 _ _ (by decide), r1 _ 8 _ _ (by decide), a1, n0]
  rw [tz_x (by omega), tz_p n6, tz_p n6]
  refine hQ _ (fun a h2 h3 h4 => ?_) rfl ?_
  · rw [ts_si_ne h2, ts_si_ne h4, ts_si_ne h3]
  · have o1 : ∀ j : Int, ¬ (j = 1 ∨ j = 43 + 2 * w 1 ∨ j = 43 + 2 * w 1 + 1) → to_lists w v p j = w j := fun j h => by
      unfold to_lists; rw [tz_fu_n (by omega), tz_fu_n (by omega), tz_fu_n (by omega)]
    have o2 : to_lists w v p 1 = w 1 + 1 := by unfold to_lists; rw [tz_fu_e]
    unfold tz_P2
    rw [o2, o1 2 (by omega)]
    refine ⟨tz_si_a, ?_, fun i h2 h3 => ?_⟩
    · rw [tz_si_k (by omega), ts_si_ne (by omega), ts_si_ne (by omega)]; exact a2
    · by_cases c1 : i = w 1
      · subst c1
        constructor
        · rw [ts_si_ne (by omega), ts_si_ne (by omega), tz_si_a]
          unfold tz_pi to_lists
          rw [tz_fu_n (by omega), tz_fu_n (by omega), tz_fu_e]
        · rw [ts_si_ne (by omega), tz_si_a]
          unfold tz_pp to_lists
          rw [tz_fu_n (by omega), tz_fu_e]
      · have h4 := a3 i h2 (by omega)
        constructor
        · rw [ts_si_ne (by omega), ts_si_ne (by omega), tz_si_k c1, h4.1]
          exact (o1 (43 + 2 * i) (by omega)).symm
        · rw [ts_si_ne (by omega), tz_si_k c1, ts_si_ne (by omega), h4.2]
          exact (o1 (43 + 2 * i + 1) (by omega)).symm
theorem tc_addP (hW : tz_W B w) (hS : tz_S b M w) (h1 : w 1 < 6) (hQ : ∀ M' : ts_M, tz_F b M M' → tz_S b M' (to_prop w p) → Q (w 2) M') : wX4_add b p Q M := by
  obtain ⟨e0, e1, _, e3, _, _, _, _, _, _, _, _, ez, _⟩ := hW
  obtain ⟨a1, a2, a3⟩ := tz_S_2 hS
  have q1 : ts_fu w 2 (w 2 + 1) 1 = w 1 := tz_fu_n (by omega)
  have o1 : ∀ j : Int, ¬ (j = 1 ∨ j = 2 ∨ (43 ≤ j ∧ j < 55)) → to_prop w p j = w j := fun j h => by
    unfold to_prop to_lists; rw [tz_fu_n (by omega), q1, tz_fu_n (by omega), tz_fu_n (by omega), tz_fu_n (by omega)]
  simp only [wX4_add, forall_eq, a2]
  refine tc_append (w := ts_fu w 2 (w 2 + 1)) ?_ (by rw [q1]; exact e1.1) (by rw [q1]; exact h1) (fun M' f1 f2 f3 => hQ M' ?_ ?_)
  · unfold tz_P2
    rw [q1, tz_fu_e]
    refine ⟨?_, tz_si_a, fun i h2 h3 => ?_⟩
    · rw [tz_si_k (by omega)]; exact a1
    · have h4 := a3 i h2 h3
      rw [ts_si_ne (by omega), ts_si_ne (by omega)]
      unfold tz_pi tz_pp at h4 ⊢
      rw [tz_fu_n (by omega), tz_fu_n (by omega)]; exact h4
  · refine ⟨fun a h => ⟨?_, by rw [f2]; rfl⟩, by rw [f2]; rfl⟩
    rw [f1 a (by omega) (by omega) (by omega), ts_si_ne (by omega)]
  · have g : ∀ c : Nat, c ≠ 6 → c ≠ 7 → c ≠ 8 → M'.1 (b + c) = M.1 (b + c) := fun c h2 h3 h4 => by rw [f1 (b + c) (by omega) (by omega) (by omega), ts_si_ne (by omega)]
    exact tz_S_of (tz_P1_c (tz_S_1 hS) e0.2 (fun c h3 h4 => g c (by omega) (by omega) (by omega)) (fun j h => o1 j (by omega))) f3 (tz_P3_c (tz_S_3 hS) e3.2 (fun c h3 h4 => g c (by omega) (by omega) (by omega)) (fun j h => o1 j (by omega))) (tz_P4_c (tz_S_4 hS) (by rw [f2]; rfl) (fun j h h' => o1 j (by omega))) (tz_P5_c (tz_S_5 hS) (g 0 (by omega) (by omega) (by omega)) (g 13 (by omega) (by omega) (by omega)) (fun j h => o1 j (by omega)))
end TZG
