/-! ===== spilling: the order of the cells ===== -/
def tz_far (r c k : Int) : Int := tz_df (k / 8) r + tz_df (k % 8) c
def tz_bst (w : Int → Int) (r c : Int) : Nat → Int × Int
  | 0 => (99, -1)
  | n + 1 => if tz_we w (n : Int) = 1 ∨ (tz_bst w r c n).1 ≤ tz_far r c (n : Int) then tz_bst w r c n else (tz_far r c (n : Int), (n : Int))
def to_wn (w : Int → Int) (r c : Int) : Int → Int := if (tz_bst w r c 64).2 < 0 then w else ts_fu w (82 + (tz_bst w r c 64).2) 1
def to_wns (w : Int → Int) (r c : Int) : Nat → Int → Int
  | 0 => w
  | n + 1 => to_wn (to_wns w r c n) r c
section TZT
variable {B : Int} {Q : Int → ts_M → Prop} {Qv : ts_M → Prop} {M M' : ts_M} {b : Nat} {w : Int → Int} {r c p1 p2 p3 : Int}
theorem tz_df_or {x y : Int} : (x ≤ y ∧ tz_df x y = y - x) ∨ (y ≤ x ∧ tz_df x y = x - y) := by
  unfold tz_df
  by_cases h : x < y
  · rw [if_pos h]; omega
  · rw [if_neg h]; omega
theorem tz_far_rng {k : Int} (hr : 0 ≤ r ∧ r ≤ 7) (hc : 0 ≤ c ∧ c ≤ 7) (hk : 0 ≤ k ∧ k < 64) : 0 ≤ tz_far r c k ∧ tz_far r c k ≤ 14 := by
  have h1 := tz_df_or (x := k / 8) (y := r)
  have h2 := tz_df_or (x := k % 8) (y := c)
  unfold tz_far; omega
theorem tz_bst_spec (hr : 0 ≤ r ∧ r ≤ 7) (hc : 0 ≤ c ∧ c ≤ 7) : ∀ n : Nat, n ≤ 64 → (tz_bst w r c n = (99, -1) ∧ ∀ k : Int, 0 ≤ k → k < (n : Int) → tz_we w k = 1) ∨ (0 ≤ (tz_bst w r c n).2 ∧ (tz_bst w r c n).2 < (n : Int) ∧ (tz_bst w r c n).1 = tz_far r c (tz_bst w r c n).2 ∧ tz_we w (tz_bst w r c n).2 ≠ 1 ∧ ∀ k : Int, 0 ≤ k → k < (n : Int) → tz_we w k ≠ 1 → tz_far r c (tz_bst w r c n).2 < tz_far r c k ∨ (tz_far r c (tz_bst w r c n).2 = tz_far r c k ∧ (tz_bst w r c n).2 ≤ k))
  | 0, _ => Or.inl ⟨rfl, fun k h1 h2 => by omega⟩
  | n + 1, hn => by
    have ih := tz_bst_spec hr hc n (by omega)
    have hf := tz_far_rng hr hc (k := (n : Int)) (by omega)
    unfold tz_bst
    by_cases c1 : tz_we w (n : Int) = 1
    · rw [if_pos (Or.inl c1)]
      rcases ih with ⟨h1, h2⟩ | ⟨h1, h2, h3, h4, h5⟩
      · refine Or.inl ⟨h1, fun k h6 h7 => ?_⟩
        by_cases c2 : k = (n : Int)
        · rw [c2]; exact c1
        · exact h2 k h6 (by omega)
      · refine Or.inr ⟨h1, by omega, h3, h4, fun k h6 h7 h8 => ?_⟩
        by_cases c2 : k = (n : Int)
        · rw [c2] at h8; exact absurd c1 h8
        · exact h5 k h6 (by omega) h8
    · by_cases c2 : (tz_bst w r c n).1 ≤ tz_far r c (n : Int)
      · rw [if_pos (Or.inr c2)]
        rcases ih with ⟨h1, h2⟩ | ⟨h1, h2, h3, h4, h5⟩
        · rw [h1] at c2
          have : (99 : Int) ≤ tz_far r c (n : Int) := c2
          omega
        · refine Or.inr ⟨h1, by omega, h3, h4, fun k h6 h7 h8 => ?_⟩
          by_cases c3 : k = (n : Int)
          · subst c3; omega
          · exact h5 k h6 (by omega) h8
      · rw [if_neg (by intro h; rcases h with h | h; exact c1 h; exact c2 h)]
        refine Or.inr ⟨by show 0 ≤ (n : Int); omega, by show (n : Int) < ((n + 1 : Nat) : Int); omega, rfl, c1, fun k h6 h7 h8 => ?_⟩
        show tz_far r c (n : Int) < tz_far r c k ∨ (tz_far r c (n : Int) = tz_far r c k ∧ (n : Int) ≤ k)
        by_cases c3 : k = (n : Int)
        · subst c3; exact Or.inr ⟨rfl, Int.le_refl _⟩
        · rcases ih with ⟨h1, h2⟩ | ⟨h1, h2, h3, h4, h5⟩
          · exact absurd (h2 k h6 (by omega)) h8
          · have := h5 k h6 (by omega) h8
            left; omega
theorem to_wn_at {k0 : Int} (hr : 0 ≤ r ∧ r ≤ 7) (hc : 0 ≤ c ∧ c ≤ 7) (h1 : 0 ≤ k0) (h2 : k0 < 64) (h3 : tz_we w k0 ≠ 1) (h4 : ∀ k : Int, 0 ≤ k → k < 64 → tz_we w k ≠ 1 → tz_far r c k0 < tz_far r c k ∨ (tz_far r c k0 = tz_far r c k ∧ k0 ≤ k)) : to_wn w r c = ts_fu w (82 + k0) 1 := by
  rcases tz_bst_spec (w := w) hr hc 64 (Nat.le_refl _) with ⟨g1, g2⟩ | ⟨g1, g2, g3, g4, g5⟩
  · exact absurd (g2 k0 h1 h2) h3
  · have e1 := h4 _ g1 g2 g4
    have e2 := g5 k0 h1 h2 h3
    have e3 : (tz_bst w r c 64).2 = k0 := by omega
    unfold to_wn
    rw [if_neg (by omega), e3]
theorem to_wn_all (hr : 0 ≤ r ∧ r ≤ 7) (hc : 0 ≤ c ∧ c ≤ 7) (h1 : ∀ k : Int, 0 ≤ k → k < 64 → tz_we w k = 1) : to_wn w r c = w := by
  rcases tz_bst_spec (w := w) hr hc 64 (Nat.le_refl _) with ⟨g1, g2⟩ | ⟨g1, g2, g3, g4, g5⟩
  · unfold to_wn; rw [g1]; rfl
  · exact absurd (h1 _ g1 g2) g4
theorem to_wn_o {j : Int} (hr : 0 ≤ r ∧ r ≤ 7) (hc : 0 ≤ c ∧ c ≤ 7) (h : ¬ (82 ≤ j ∧ j < 146)) : to_wn w r c j = w j := by
  rcases tz_bst_spec (w := w) hr hc 64 (Nat.le_refl _) with ⟨g1, g2⟩ | ⟨g1, g2, g3, g4, g5⟩
  · unfold to_wn; rw [g1]; rfl
  · unfold to_wn; rw [if_neg (by omega), tz_fu_n (by omega)]
theorem to_wns_o {n : Nat} {j : Int} (hr : 0 ≤ r ∧ r ≤ 7) (hc : 0 ≤ c ∧ c ≤ 7) (h : ¬ (82 ≤ j ∧ j < 146)) : to_wns w r c n j = w j := by
  induction n with
  | zero => rfl
  | succ n ihn => exact (to_wn_o hr hc h).trans ihn
theorem to_wn_W4 (hr : 0 ≤ r ∧ r ≤ 7) (hc : 0 ≤ c ∧ c ≤ 7) (h : tz_W4 w) : tz_W4 (to_wn w r c) := fun k h1 h2 => by
  rcases tz_bst_spec (w := w) hr hc 64 (Nat.le_refl _) with ⟨g1, g2⟩ | ⟨g1, g2, g3, g4, g5⟩
  · have e : to_wn w r c = w := by unfold to_wn; rw [g1]; rfl
    rw [e]; exact h k h1 h2
  · have e : to_wn w r c = ts_fu w (82 + (tz_bst w r c 64).2) 1 := by unfold to_wn; rw [if_neg (by omega)]
    rw [e]
    unfold tz_we
    by_cases c1 : k = (tz_bst w r c 64).2
    · rw [c1, tz_fu_e]; omega
    · rw [tz_fu_n (by omega)]; exact h k h1 h2
theorem to_wns_W4 (hr : 0 ≤ r ∧ r ≤ 7) (hc : 0 ≤ c ∧ c ≤ 7) (h : tz_W4 w) : ∀ n : Nat, tz_W4 (to_wns w r c n)
  | 0 => h
  | n + 1 => to_wn_W4 hr hc (to_wns_W4 hr hc h n)
/-- nothing is left to wet: the rest of the cells changes nothing -/
theorem to_wns_full (hr : 0 ≤ r ∧ r ≤ 7) (hc : 0 ≤ c ∧ c ≤ 7) {n : Nat} (h : ∀ k : Int, 0 ≤ k → k < 64 → tz_we (to_wns w r c n) k = 1) : ∀ d : Nat, to_wns w r c (n + d) = to_wns w r c n
  | 0 => rfl
  | d + 1 => by
    have ih := to_wns_full hr hc h d
    show to_wn (to_wns w r c (n + d)) r c = _
    rw [ih]; exact to_wn_all hr hc h
theorem tc_moisten (hr : 0 ≤ p1 ∧ p1 ≤ 7) (h2 : -20 ≤ p2 ∧ p2 ≤ 30) (h3 : 0 ≤ p3 ∧ p3 ≤ 1000) (hz : p3 = 0 ∨ ¬ (0 ≤ p2 ∧ p2 ≤ 7) ∨ tz_bit (M.2.1 (b + 11) 0) (8 * p1 + p2).toNat = true → Q 0 M) (ho : 0 < p3 → 0 ≤ p2 → p2 ≤ 7 → tz_bit (M.2.1 (b + 11) 0) (8 * p1 + p2).toNat = false → Q 1 (ts_sl M (b + 11) 0 (M.2.1 (b + 11) 0 ||| ts_lshl 1 (p1 * 8 + p2)))) : wX1_moisten b p1 p2 p3 Q M := by
  simp only [wX1_moisten, wX1_moisten_B23, wX1_wetAt, wX1_cell, forall_eq]
  rw [tz_n (x := p3) (by omega) (by omega), tc_hasCell (tz_n (by omega) (by omega)) (tz_n (by omega) (by omega)), tz_iw, tz_iz]
  by_cases c1 : p3 ≤ 0
  · rw [tz_y c1]; exact hz (Or.inl (by omega))
  · rw [tz_x c1]
    have e1 : tz_in 0 p1 7 = true := tz_in_t.mpr hr
    rw [e1, Bool.true_and]
    cases c2 : tz_in 0 p2 7
    · rw [tz_y rfl]; exact hz (Or.inr (Or.inl (tz_in_f.mp c2)))
    · have c3 := tz_in_t.mp c2
      rw [tz_x (by decide)]
      have e2 : (M.2.1 (b + 11) 0 &&& ts_lshl 1 (p1 * 8 + p2)) = 0 ↔ tz_bit (M.2.1 (b + 11) 0) (8 * p1 + p2).toNat = false := by
        rw [tz_bit_at (by omega) (by omega), show p1 * 8 + p2 = 8 * p1 + p2 by omega]
      by_cases c4 : (M.2.1 (b + 11) 0 &&& ts_lshl 1 (p1 * 8 + p2)) = 0
      · rw [tz_y c4]; exact ho (by omega) c3.1 c3.2 (e2.mp c4)
      · rw [tz_x c4]
        refine hz (Or.inr (Or.inr ?_))
        cases h : tz_bit (M.2.1 (b + 11) 0) (8 * p1 + p2).toNat
        · exact absurd (e2.mpr h) c4
        · rfl
/-- one cell becomes wet -/
theorem tz_P4_wet {k0 : Int} (hP : tz_P4 b M w) (h1 : 0 ≤ k0) (h2 : k0 < 64) {x : Int64} (hx : ∀ k : Nat, k < 64 → tz_bit x k = decide ((k : Int) = k0)) : tz_P4 b (ts_sl M (b + 11) 0 (M.2.1 (b + 11) 0 ||| x)) (ts_fu w (82 + k0) 1) := fun k hk => by
  have e5 : (ts_sl M (b + 11) 0 (M.2.1 (b + 11) 0 ||| x)).2.1 (b + 11) 0 = M.2.1 (b + 11) 0 ||| x := if_pos ⟨rfl, rfl⟩
  rw [e5, tz_bit_or, hP k hk, hx k hk]
  unfold tz_we
  by_cases c1 : (k : Int) = k0
  · rw [c1, tz_fu_e]; simp
  · rw [tz_fu_n (by omega), decide_eq_false c1, Bool.or_false]
/-- all cells that come before: nearer, or as near and in an earlier row -/
def tz_bef (r c dist nr k : Int) : Prop := tz_far r c k < dist ∨ (tz_far r c k = dist ∧ k / 8 < nr)
def tz_FW (b : Nat) (M M' : ts_M) : Prop := M'.1 = M.1 ∧ M'.2.2 = M.2.2 ∧ (∀ a : Nat, a ≠ b + 11 → M'.2.1 a = M.2.1 a)
/-- the state of the spill: i cells became wet -/
def tz_IS (b : Nat) (M : ts_M) (w : Int → Int) (r c n : Int) (left : Int) (m : ts_M) (P : (Int → Int) → Prop) : Prop := ∃ i : Nat, (i : Int) + left = n ∧ 0 ≤ left ∧ tz_P4 b m (to_wns w r c i) ∧ tz_FW b M m ∧ (left = 0 ∨ P (to_wns w r c i))
theorem tc_spread {n : Int} (hr : 0 ≤ r ∧ r ≤ 7) (hc : 0 ≤ c ∧ c ≤ 7) (hn : 1 ≤ n ∧ n ≤ 30) (hW4 : tz_W4 w) (hP : tz_P4 b M w) (hQ : ∀ M' : ts_M, tz_FW b M M' → tz_P4 b M' (to_wns w r c n.toNat) → Qv M') : wX1_spread b r c n Qv M := by
  simp only [wX1_spread, forall_eq]
  refine tz_ex4 (fun d x1 x2 x3 x4 m => x1 = r ∧ x2 = c ∧ 0 ≤ x4 ∧ x4 ≤ 15 ∧ d = (15 - x4).toNat ∧ tz_IS b M w r c n x3 m (fun x => ∀ k : Int, 0 ≤ k → k < 64 → tz_bef r c x4 0 k → tz_we x k = 1)) 15 ⟨rfl, rfl, by omega, by omega, rfl, ⟨0, by show ((0 : Nat) : Int) + n = n; omega, by omega, hP, ⟨rfl, rfl, fun _ _ => rfl⟩, Or.inr (fun k h1 h2 h3 => by
    have h4 := tz_far_rng hr hc (k := k) ⟨h1, h2⟩
    unfold tz_bef at h3
    omega)⟩⟩ ?_
  rintro k6 d x1 x2 x3 x4 m ⟨rfl, rfl, i1, i2, i3, i4⟩ hk6
  simp only [wX1_spread_L6, forall_eq]
  rw [tz_n (x := x4) (by omega) (by omega)]
  by_cases c1 : 14 < x4
  · rw [tz_y c1]
    obtain ⟨i, j1, j2, j3, j4, j5⟩ := i4
    refine hQ m j4 ?_
    rcases j5 with h | h
    · have : n.toNat = i := by omega
      rw [this]; exact j3
    · have full : ∀ k : Int, 0 ≤ k → k < 64 → tz_we (to_wns w x1 x2 i) k = 1 := fun k h1 h2 => h k h1 h2 (by
        have h4 := tz_far_rng hr hc (k := k) ⟨h1, h2⟩
        unfold tz_bef; omega)
      have := to_wns_full hr hc full (n.toNat - i)
      rw [show i + (n.toNat - i) = n.toNat by omega] at this
      rw [this]; exact j3
  · rw [tz_x c1]
    refine tz_ex5 (fun d y1 y2 y3 y4 y5 m2 => y1 = x1 ∧ y2 = x2 ∧ y4 = x4 ∧ 0 ≤ y5 ∧ y5 ≤ 8 ∧ d = (8 - y5).toNat ∧ tz_IS b M w x1 x2 n y3 m2 (fun x => ∀ k : Int, 0 ≤ k → k < 64 → tz_bef x1 x2 x4 y5 k → tz_we x k = 1)) 8 ⟨rfl, rfl, rfl, by omega, by omega, rfl, i4⟩ ?_
    rintro k16 d2 y1 y2 y3 y4 y5 m2 ⟨rfl, rfl, rfl, e1, e2, e3, e4⟩ hk16
    simp only [wX1_spread_L16, wX1_spread_B74, forall_eq]
    rw [tz_n (x := y5) (by omega) (by omega)]
    by_cases c2 : 8 ≤ y5
    · rw [tz_y c2]
      obtain ⟨i, j1, j2, j3, j4, j5⟩ := e4
      refine hk6 (15 - (y4 + 1)).toNat _ _ _ _ m2 (by omega) ⟨rfl, rfl, by omega, by omega, rfl, ⟨i, j1, j2, j3, j4, ?_⟩⟩
      rcases j5 with h | h
      · exact Or.inl h
      · exact Or.inr (fun k h1 h2 h3 => h k h1 h2 (by unfold tz_bef at h3 ⊢; omega))
    · rw [tz_x c2, tc_abs (p1 := y5) (p2 := y1) e1 (by omega) hr.1 (by omega)]
      have da := tz_df_or (x := y5) (y := y1)
      generalize hA : tz_df y5 y1 = A at da ⊢
      obtain ⟨i, j1, j2, j3, j4, j5⟩ := e4
      rw [tz_n (x := y4 - A) (by omega) (by omega)]
      by_cases c3 : y4 - A < 0
      · rw [tz_y c3]
        refine hk16 (8 - (y5 + 1)).toNat _ _ _ _ _ m2 (by omega) ⟨rfl, rfl, rfl, by omega, by omega, rfl, ⟨i, j1, j2, j3, j4, ?_⟩⟩
        rcases j5 with h | h
        · exact Or.inl h
        · refine Or.inr (fun k h1 h2 h3 => h k h1 h2 ?_)
          have q1 := tz_df_or (x := k / 8) (y := y1)
          have q2 := tz_df_or (x := k % 8) (y := y2)
          unfold tz_bef tz_far at h3 ⊢
          omega
      · rw [tz_x c3]
        generalize hS : y4 - A = S at c3 ⊢
        -- the second cell, and on
        have second : ∀ (left : Int) (m3 : ts_M), tz_IS b M w y1 y2 n left m3 (fun x => (∀ k : Int, 0 ≤ k → k < 64 → tz_bef y1 y2 y4 y5 k → tz_we x k = 1) ∧ (0 ≤ y2 - S → tz_we x (8 * y5 + (y2 - S)) = 1)) → wX1_moisten b y5 (y2 + S) left (fun r13 M12 => k16 y1 y2 (left - r13) y4 (y5 + 1) M12) m3 := by
          rintro left m3 ⟨i', l1, l2, l3, l4, l5⟩
          have hb := tz_P4_wb l3
          refine tc_moisten ⟨e1, by omega⟩ (by omega) (by omega) (fun hz => ?_) (fun h1 h2 h3 h4 => ?_)
          · rw [Int.sub_zero]
            refine hk16 (8 - (y5 + 1)).toNat _ _ _ _ _ m3 (by omega) ⟨rfl, rfl, rfl, by omega, by omega, rfl, ⟨i', l1, l2, l3, l4, ?_⟩⟩
            rcases l5 with h | ⟨ha, hb2⟩
            · exact Or.inl h
            · by_cases hl : left = 0
              · exact Or.inl hl
              · refine Or.inr (fun k h1 h2 h3 => ?_)
                by_cases h4 : tz_bef y1 y2 y4 y5 k
                · exact ha k h1 h2 h4
                · have q1 := tz_df_or (x := k / 8) (y := y1)
                  have q2 := tz_df_or (x := k % 8) (y := y2)
                  have q0 : k / 8 = y5 := by unfold tz_bef at h3 h4; omega
                  have q3 : tz_far y1 y2 k = y4 := by unfold tz_bef at h3 h4; omega
                  have q4 : tz_df (k / 8) y1 = A := by rw [q0]; exact hA
                  have q5 : k % 8 = y2 - S ∨ k % 8 = y2 + S := by unfold tz_far at q3; omega
                  rcases q5 with q5 | q5
                  · have := hb2 (by omega)
                    rw [show 8 * y5 + (y2 - S) = k by omega] at this
                    exact this
                  · rcases hz with hz | hz | hz
                    · exact absurd hz hl
                    · omega
                    · have h6 := hb (8 * y5 + (y2 + S)).toNat (by omega)
                      rw [hz] at h6
                      have h7 := of_decide_eq_true h6.symm
                      rw [Int.toNat_of_nonneg (by omega), show 8 * y5 + (y2 + S) = k by omega] at h7
                      exact h7
          · have h6 := hb (8 * y5 + (y2 + S)).toNat (by omega)
            rw [h4] at h6
            have h7 := of_decide_eq_false h6.symm
            rw [Int.toNat_of_nonneg (by omega)] at h7
            rcases l5 with h | ⟨ha, hb2⟩
            · omega
            · have hwn : to_wn (to_wns w y1 y2 i') y1 y2 = ts_fu (to_wns w y1 y2 i') (82 + (8 * y5 + (y2 + S))) 1 := by
                refine to_wn_at hr hc (by omega) (by omega) h7 (fun k g1 g2 g3 => ?_)
                have q1 := tz_df_or (x := k / 8) (y := y1)
                have q2 := tz_df_or (x := k % 8) (y := y2)
                have g4 : ¬ tz_bef y1 y2 y4 y5 k := fun g => g3 (ha k g1 g2 g)
                have q6 : (8 * y5 + (y2 + S)) / 8 = y5 := by omega
                have q7 : (8 * y5 + (y2 + S)) % 8 = y2 + S := by omega
                have q8 := tz_df_or (x := y2 + S) (y := y2)
                have q9 : tz_far y1 y2 (8 * y5 + (y2 + S)) = y4 := by unfold tz_far; rw [q6, q7, hA]; omega
                rw [q9]
                unfold tz_bef at g4
                by_cases q10 : tz_far y1 y2 k = y4
                · right
                  refine ⟨q10.symm, ?_⟩
                  by_cases q11 : k / 8 = y5
                  · have q4 : tz_df (k / 8) y1 = A := by rw [q11]; exact hA
                    have q5 : k % 8 = y2 - S ∨ k % 8 = y2 + S := by unfold tz_far at q10; omega
                    rcases q5 with q5 | q5
                    · have := hb2 (by omega)
                      rw [show 8 * y5 + (y2 - S) = k by omega] at this
                      exact absurd this g3
                    · omega
                  · omega
                · omega
              refine hk16 (8 - (y5 + 1)).toNat _ _ _ _ _ _ (by omega) ⟨rfl, rfl, rfl, by omega, by omega, rfl, ⟨i' + 1, by omega, by omega, ?_, ?_, Or.inr (fun k g1 g2 g3 => ?_)⟩⟩
              · show tz_P4 b _ (to_wn (to_wns w y1 y2 i') y1 y2)
                rw [hwn]
                refine tz_P4_wet l3 (by omega) (by omega) (fun k hk => ?_)
                rw [tz_bit_c (by omega) (by omega) hk, show y5 * 8 + (y2 + S) = 8 * y5 + (y2 + S) by omega]
              · exact ⟨l4.1, l4.2.1, fun a h => (ts_sl_ne h).trans (l4.2.2 a h)⟩
              · show tz_we (to_wn (to_wns w y1 y2 i') y1 y2) k = 1
                rw [hwn]
                unfold tz_we
                by_cases z1 : k = 8 * y5 + (y2 + S)
                · rw [z1, tz_fu_e]
                · rw [tz_fu_n (by omega)]
                  by_cases z2 : tz_bef y1 y2 y4 y5 k
                  · exact ha k g1 g2 z2
                  · have q1 := tz_df_or (x := k / 8) (y := y1)
                    have q2 := tz_df_or (x := k % 8) (y := y2)
                    have q0 : k / 8 = y5 := by unfold tz_bef at g3 z2; omega
                    have q3 : tz_far y1 y2 k = y4 := by unfold tz_bef at g3 z2; omega
                    have q4 : tz_df (k / 8) y1 = A := by rw [q0]; exact hA
                    have q5 : k % 8 = y2 - S ∨ k % 8 = y2 + S := by unfold tz_far at q3; omega
                    rcases q5 with q5 | q5
                    · have := hb2 (by omega)
                      rw [show 8 * y5 + (y2 - S) = k by omega] at this
                      exact this
                    · omega
        -- the first cell
        have hb := tz_P4_wb j3
        refine tc_moisten ⟨e1, by omega⟩ (by omega) (by omega) (fun hz => ?_) (fun h1 h2 h3 h4 => ?_)
        · rw [Int.sub_zero]
          refine second y3 m2 ⟨i, j1, j2, j3, j4, ?_⟩
          rcases j5 with h | h
          · exact Or.inl h
          · by_cases hl : y3 = 0
            · exact Or.inl hl
            · refine Or.inr ⟨h, fun h1 => ?_⟩
              rcases hz with hz | hz | hz
              · exact absurd hz hl
              · omega
              · have h6 := hb (8 * y5 + (y2 - S)).toNat (by omega)
                rw [hz] at h6
                have h7 := of_decide_eq_true h6.symm
                rw [Int.toNat_of_nonneg (by omega)] at h7
                exact h7
        · have h6 := hb (8 * y5 + (y2 - S)).toNat (by omega)
          rw [h4] at h6
          have h7 := of_decide_eq_false h6.symm
          rw [Int.toNat_of_nonneg (by omega)] at h7
          rcases j5 with h | ha
          · omega
          · have hwn : to_wn (to_wns w y1 y2 i) y1 y2 = ts_fu (to_wns w y1 y2 i) (82 + (8 * y5 + (y2 - S))) 1 := by
              refine to_wn_at hr hc (by omega) (by omega) h7 (fun k g1 g2 g3 => ?_)
              have q1 := tz_df_or (x := k / 8) (y := y1)
              have q2 := tz_df_or (x := k % 8) (y := y2)
              have g4 : ¬ tz_bef y1 y2 y4 y5 k := fun g => g3 (ha k g1 g2 g)
              have q6 : (8 * y5 + (y2 - S)) / 8 = y5 := by omega
              have q7 : (8 * y5 + (y2 - S)) % 8 = y2 - S := by omega
              have q8 := tz_df_or (x := y2 - S) (y := y2)
              have q9 : tz_far y1 y2 (8 * y5 + (y2 - S)) = y4 := by unfold tz_far; rw [q6, q7, hA]; omega
              rw [q9]
              unfold tz_bef at g4
              by_cases q10 : tz_far y1 y2 k = y4
              · right
                refine ⟨q10.symm, ?_⟩
                by_cases q11 : k / 8 = y5
                · have q4 : tz_df (k / 8) y1 = A := by rw [q11]; exact hA
                  unfold tz_far at q10; omega
                · omega
              · omega
            refine second (y3 - 1) _ ⟨i + 1, by omega, by omega, ?_, ?_, Or.inr ⟨fun k g1 g2 g3 => ?_, fun _ => ?_⟩⟩
            · show tz_P4 b _ (to_wn (to_wns w y1 y2 i) y1 y2)
              rw [hwn]
              refine tz_P4_wet j3 (by omega) (by omega) (fun k hk => ?_)
              rw [tz_bit_c (by omega) (by omega) hk, show y5 * 8 + (y2 - S) = 8 * y5 + (y2 - S) by omega]
            · exact ⟨j4.1, j4.2.1, fun a h => (ts_sl_ne h).trans (j4.2.2 a h)⟩
            · show tz_we (to_wn (to_wns w y1 y2 i) y1 y2) k = 1
              rw [hwn]
              unfold tz_we
              by_cases z1 : k = 8 * y5 + (y2 - S)
              · rw [z1, tz_fu_e]
              · rw [tz_fu_n (by omega)]; exact ha k g1 g2 g3
            · show tz_we (to_wn (to_wns w y1 y2 i) y1 y2) _ = 1
              rw [hwn]
              exact tz_fu_e
end TZT
