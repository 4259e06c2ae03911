/-! ===== the class: groups of all cells, both ways agree; mopping; spilling ===== -/
section TZS
variable {B : Int} {Q : Int → ts_M → Prop} {Ql : Int64 → ts_M → Prop} {Qv : ts_M → Prop} {M M' M'' : ts_M} {b : Nat} {w : Int → Int} {wt : Nat → Bool}
theorem tz_FG_rfl : tz_FG b M M := ⟨fun _ _ _ => rfl, fun _ _ => rfl, rfl⟩
theorem tz_FG_tr (h1 : tz_FG b M M') (h2 : tz_FG b M' M'') : tz_FG b M M'' := ⟨fun a j h => (h2.1 a j h).trans (h1.1 a j h), fun a h => (h2.2.1 a h).trans (h1.2.1 a h), h2.2.2.trans h1.2.2⟩
theorem tz_FG_wet (h : tz_FG b M M') : M'.2.1 (b + 11) = M.2.1 (b + 11) := h.2.1 _ (by omega)
theorem tz_GI_dry {m : Nat} (h : tz_GI wt b m M) (hw : wt m = false) : tz_GI wt b (m + 1) M := by
  obtain ⟨n, hn, hnm, hA, hC⟩ := h
  have e : ∀ k : Nat, tz_wm wt m k = tz_wm wt (m + 1) k := fun k => by
    unfold tz_wm
    by_cases c1 : k = m
    · rw [c1, hw, Bool.false_and, Bool.false_and]
    · by_cases c2 : k < m
      · rw [decide_eq_true c2, decide_eq_true (show k < m + 1 by omega)]
      · rw [decide_eq_false c2, decide_eq_false (show ¬ k < m + 1 by omega)]
  refine ⟨n, hn, by omega, fun g hg => ?_, fun s h1 h2 h3 => ?_⟩
  · obtain ⟨s, s1, s2, s3, s4⟩ := hA g hg
    exact ⟨s, by omega, s2, s3, fun k hk => (s4 k hk).trans (tz_cp_congr (fun j _ => e j) s2)⟩
  · by_cases c1 : s = m
    · rw [c1, hw] at h3; cases h3
    · exact hC s (by omega) h2 h3
/-- the bits of a cell -/
theorem tz_cellb {r c : Nat} (h1 : r < 8) (h2 : c < 8) : ∀ k : Nat, k < 64 → tz_bit (ts_lshl 1 ((r : Int) * 8 + (c : Int))) k = decide (k = 8 * r + c) := fun k hk => by
  rw [tz_bit_c (by omega) (by omega) hk]
  by_cases h3 : k = 8 * r + c
  · rw [decide_eq_true h3, decide_eq_true (by omega)]
  · rw [decide_eq_false h3, decide_eq_false (by omega)]
theorem tz_wetb {x : Int64} {r c : Nat} (h1 : r < 8) (h2 : c < 8) : (x &&& ts_lshl 1 ((r : Int) * 8 + (c : Int))) = 0 ↔ tz_bit x (8 * r + c) = false := by
  rw [tz_bit_at (by omega) (by omega), show ((r : Int) * 8 + (c : Int)).toNat = 8 * r + c by omega]
theorem tc_joinGroups (hQ : ∀ M' : ts_M, tz_FG b M M' → tz_GI (tz_bit (M.2.1 (b + 11) 0)) b 64 M' → Qv M') : wX1_joinGroups b Qv M := by
  generalize hc : M.2.1 (b + 11) 0 = c at hQ
  simp only [wX1_joinGroups, forall_eq]
  refine tz_ex1 (fun d x1 m => ∃ r : Nat, x1 = (r : Int) ∧ r ≤ 8 ∧ d = 8 - r ∧ tz_FG b M m ∧ tz_GI (tz_bit c) b (8 * r) m) 8 ⟨0, rfl, by omega, rfl, ⟨fun a j h => ?_, fun _ _ => rfl, rfl⟩, ⟨0, tz_si_a, by omega, fun g hg => absurd hg (Nat.not_lt_zero _), fun s h1 => absurd h1 (by omega)⟩⟩ ?_
  · show (if a = b + 11 ∧ j = 2 then 0 else M.1 a j) = _
    rw [if_neg h]
  · rintro k7 d x1 m ⟨r, rfl, i1, i2, i3, i4⟩ hk7
    simp only [wX1_joinGroups_L7, forall_eq]
    rw [tz_n (x := (r : Int)) (by omega) (by omega)]
    by_cases c1 : (8 : Int) ≤ (r : Int)
    · rw [tz_y c1]
      have : r = 8 := by omega
      subst this
      exact hQ m i3 i4
    · rw [tz_x c1]
      refine tz_ex2 (fun d x1 x2 m => ∃ q : Nat, x1 = (r : Int) ∧ x2 = (q : Int) ∧ q ≤ 8 ∧ d = 8 - q ∧ tz_FG b M m ∧ tz_GI (tz_bit c) b (8 * r + q) m) 8 ⟨0, rfl, rfl, by omega, rfl, i3, i4⟩ ?_
      rintro k15 d2 x1 x2 m2 ⟨q, rfl, rfl, j1, j2, j3, j4⟩ hk15
      have hc2 : m2.2.1 (b + 11) 0 = c := by rw [tz_FG_wet j3]; exact hc
      simp only [wX1_joinGroups_L15, wX1_joinGroups_B41, wX1_wetAt, wX1_cell, forall_eq]
      rw [tz_n (x := (q : Int)) (by omega) (by omega), hc2]
      by_cases c2 : (8 : Int) ≤ (q : Int)
      · rw [tz_y c2]
        have : q = 8 := by omega
        subst this
        exact hk7 (8 - (r + 1)) _ m2 (by omega) ⟨r + 1, by omega, by omega, rfl, j3, by rw [show 8 * (r + 1) = 8 * r + 8 by omega]; exact j4⟩
      · rw [tz_x c2]
        by_cases c3 : (c &&& ts_lshl 1 ((r : Int) * 8 + (q : Int))) = 0
        · rw [tz_y c3]
          exact hk15 (8 - (q + 1)) _ _ m2 (by omega) ⟨q + 1, rfl, by omega, by omega, rfl, j3, tz_GI_dry j4 ((tz_wetb (by omega) (by omega)).mp c3)⟩
        · rw [tz_x c3]
          have hw : tz_bit c (8 * r + q) = true := by
            cases h : tz_bit c (8 * r + q)
            · exact absurd ((tz_wetb (by omega) (by omega)).mpr h) c3
            · rfl
          refine tc_joinCell (m := 8 * r + q) (by omega) (tz_cellb (by omega) (by omega)) hw j4 (fun m3 g1 g2 => ?_)
          exact hk15 (8 - (q + 1)) _ _ m3 (by omega) ⟨q + 1, rfl, by omega, by omega, rfl, tz_FG_tr j3 g1, g2⟩
theorem tc_groupOf {p : Int64} {s : Nat} (hs : s < 64) (hp : ∀ k : Nat, k < 64 → tz_bit p k = decide (k = s)) (hG : tz_GI wt b 64 M) (hQ : ∀ r : Int64, (∀ k : Nat, k < 64 → (tz_bit r k = true ↔ tz_cp wt s k)) → Ql r M) : wX1_groupOf b p Ql M := by
  obtain ⟨n, hn, hnm, hA, hC⟩ := hG
  have e : ∀ k : Nat, k < 64 → tz_wm wt 64 k = wt k := fun k hk => by unfold tz_wm; rw [decide_eq_true hk, Bool.and_true]
  have z : ∀ x : Int64, (x &&& p = 0) ↔ tz_bit x s = false := fun x => by
    rw [tz_bit_z]
    constructor
    · intro h
      have := h s hs
      rw [tz_bit_and, hp s hs, decide_eq_true rfl, Bool.and_true] at this; exact this
    · intro h k hk
      rw [tz_bit_and, hp k hk]
      by_cases c1 : k = s
      · rw [c1, h, Bool.false_and]
      · rw [decide_eq_false c1, Bool.and_false]
  simp only [wX1_groupOf, forall_eq]
  refine tz_ex2 (fun d x1 x2 m => ∃ g : Nat, m = M ∧ x1 = p ∧ x2 = (g : Int) ∧ g ≤ n ∧ d = n - g ∧ ∀ i : Nat, i < g → tz_bit (M.2.1 (b + 12) (i : Int)) s = false) n ⟨0, rfl, rfl, rfl, by omega, rfl, fun i hi => absurd hi (Nat.not_lt_zero _)⟩ ?_
  rintro k d x1 x2 m ⟨g, rfl, rfl, rfl, i1, i2, i3⟩ hk
  simp only [wX1_groupOf_L2, forall_eq, hn]
  rw [tz_n (x := (n : Int)) (by omega) (by omega), tz_n (x := (g : Int)) (by omega) (by omega)]
  by_cases c1 : (n : Int) ≤ (g : Int)
  · rw [tz_y c1]
    have hg : g = n := by omega
    refine hQ 0 (fun k hk => ⟨fun h => absurd (tz_bit_0.symm.trans h) (by decide), fun h => ?_⟩)
    obtain ⟨g2, h1, h2⟩ := hC s hs hs (tz_cp_src h)
    rw [i3 g2 (by omega)] at h2; cases h2
  · rw [tz_x c1, tz_p ⟨by omega, by omega⟩]
    by_cases c2 : m.2.1 (b + 12) (g : Int) &&& x1 = 0
    · rw [tz_y c2]
      refine hk (n - (g + 1)) _ _ m (by omega) ⟨g + 1, rfl, rfl, by omega, by omega, rfl, fun i hi => ?_⟩
      by_cases c3 : i = g
      · rw [c3]; exact (z _).mp c2
      · exact i3 i (by omega)
    · rw [tz_x c2, tz_p ⟨by omega, by omega⟩]
      obtain ⟨s2, h1, h2, h3, h4⟩ := hA g (by omega)
      have hb : tz_bit (m.2.1 (b + 12) (g : Int)) s = true := by
        cases h : tz_bit (m.2.1 (b + 12) (g : Int)) s
        · exact absurd ((z _).mpr h) c2
        · rfl
      have h5 := (h4 s hs).mp hb
      refine hQ _ (fun k hk => ?_)
      rw [h4 k hk, tz_cp_same h2 h5]
      exact tz_cp_congr e hs
/-- both ways to measure puddles agree -/
theorem tc_agree (hQ : ∀ M' : ts_M, tz_FG b M M' → Q 1 M') : wX1_puddleWaysAgree b Q M := by
  unfold wX1_puddleWaysAgree
  refine tc_joinGroups (fun M1 hF hG => ?_)
  have hc1 : M1.2.1 (b + 11) 0 = M.2.1 (b + 11) 0 := by rw [tz_FG_wet hF]
  simp only [forall_eq, hc1]
  generalize hc : M.2.1 (b + 11) 0 = c at *
  refine tz_ex2 (fun d x1 x2 m => m = M1 ∧ 0 ≤ x2 ∧ x2 ≤ 64 ∧ d = (64 - x2).toNat) 64 ⟨rfl, by omega, by omega, rfl⟩ ?_
  rintro k d x1 x2 m ⟨rfl, i2, i3, i4⟩ hk
  simp only [wX1_puddleWaysAgree_L11, wX1_puddleWaysAgree_B66, wX1_firstOf, forall_eq]
  rw [tz_n (x := x2) (by omega) (by omega)]
  by_cases c1 : 64 ≤ x2
  · rw [tz_y c1]; exact hQ m hF
  · rw [tz_x c1]
    by_cases c2 : x1 = 0
    · rw [tz_y c2]; exact hQ m hF
    · rw [tz_x c2]
      obtain ⟨q, hq, hb, hl, he⟩ := tz_low c2
      refine tc_walk hq he (fun r hr => ?_)
      rw [hc1] at hr
      refine tc_groupOf (wt := tz_bit c) hq he hG (fun r2 hr2 => ?_)
      have e : r = r2 := tz_bit_ext (fun j hj => by
        rw [Bool.eq_iff_iff, hr j hj, hr2 j hj])
      rw [tz_y e]
      exact hk (64 - (x2 + 1)).toNat _ _ m (by omega) ⟨rfl, by omega, by omega, rfl⟩
/-- the State stands for the row still -/
theorem tz_S_FG (hW : tz_W B w) (hS : tz_S b M w) (h : tz_FG b M M') : tz_S b M' w := by
  have hW' := hW
  obtain ⟨e0, e1, _, e3, _⟩ := hW'
  have g : ∀ c : Nat, c ≠ 11 → M'.1 (b + c) = M.1 (b + c) := fun c hc => by funext j; exact h.1 _ _ (by omega)
  exact tz_S_of (tz_P1_c (tz_S_1 hS) e0.2 (fun c _ h2 => g c (by omega)) (fun _ _ => rfl)) (tz_P2_c (tz_S_2 hS) e1.2 (fun c _ h2 => g c (by omega)) (fun _ _ => rfl)) (tz_P3_c (tz_S_3 hS) e3.2 (fun c _ h2 => g c (by omega)) (fun _ _ => rfl)) (tz_P4_c (tz_S_4 hS) (by rw [tz_FG_wet h]) (fun _ _ _ => rfl)) (tz_P5_c (tz_S_5 hS) (g 0 (by omega)) (g 13 (by omega)) (fun _ _ => rfl))
theorem tz_F_FG (h : tz_FG b M M') : tz_F b M M' := ⟨fun a h1 => ⟨by funext j; exact h.1 a j (by omega), h.2.1 a (by omega)⟩, h.2.2⟩
/-- mopping -/
noncomputable def to_mop (w : Int → Int) (s : Nat) : Int → Int := fun j => @ite Int (82 ≤ j ∧ j < 146 ∧ tz_cp (tz_wb w) s (j - 82).toNat) (Classical.propDecidable _) 0 (w j)
theorem to_mop_o {s : Nat} {j : Int} (h : ¬ (82 ≤ j ∧ j < 146)) : to_mop w s j = w j := if_neg (fun h2 => h ⟨h2.1, h2.2.1⟩)
theorem tz_P4_wb (h : tz_P4 b M w) : ∀ k : Nat, k < 64 → tz_bit (M.2.1 (b + 11) 0) k = tz_wb w k := h
theorem tc_dry {p : Int64} {s : Nat} (hW : tz_W B w) (hS : tz_S b M w) (hs : s < 64) (hp : ∀ k : Nat, k < 64 → tz_bit p k = decide (k = s)) (hQ : ∀ M' : ts_M, tz_F b M M' → tz_S b M' (to_mop w s) → Q (tz_sz (tz_cp (tz_wb w) s)) M') : wX1_dry b p Q M := by
  have e4 := tz_P4_wb (tz_S_4 hS)
  simp only [wX1_dry, forall_eq]
  refine tc_walk hs hp (fun r hr => ?_)
  have hr2 : ∀ k : Nat, k < 64 → (tz_bit r k = true ↔ tz_cp (tz_wb w) s k) := fun k hk => (hr k hk).trans (tz_cp_congr e4 hs)
  rw [tz_pop, tz_sz_bit hr2]
  have hW' := hW
  obtain ⟨e0, e1, _, e3, _⟩ := hW'
  refine hQ _ (tz_F_sl (by omega) tz_F_rfl) ?_
  refine tz_S_of (tz_P1_c (tz_S_1 hS) e0.2 (fun _ _ _ => rfl) (fun j h => to_mop_o (by omega))) (tz_P2_c (tz_S_2 hS) e1.2 (fun _ _ _ => rfl) (fun j h => to_mop_o (by omega))) (tz_P3_c (tz_S_3 hS) e3.2 (fun _ _ _ => rfl) (fun j h => to_mop_o (by omega))) (fun k hk => ?_) (tz_P5_c (tz_S_5 hS) rfl rfl (fun j h => to_mop_o (by omega)))
  have e5 : (ts_sl M (b + 11) 0 (M.2.1 (b + 11) 0 &&& (r ^^^ (-1)))).2.1 (b + 11) 0 = M.2.1 (b + 11) 0 &&& (r ^^^ (-1)) := if_pos ⟨rfl, rfl⟩
  rw [e5, tz_bit_and, tz_bit_not hk, e4 k hk]
  have e6 : tz_we (to_mop w s) (k : Int) = @ite Int (tz_cp (tz_wb w) s k) (Classical.propDecidable _) 0 (tz_we w (k : Int)) := by
    unfold tz_we to_mop
    have e7 : (82 + (k : Int) - 82).toNat = k := by omega
    by_cases h1 : tz_cp (tz_wb w) s k
    · rw [if_pos h1, if_pos ⟨by omega, by omega, by rw [e7]; exact h1⟩]
    · rw [if_neg h1, if_neg (fun h2 => h1 (by have := h2.2.2; rw [e7] at this; exact this))]
  rw [e6]
  by_cases h1 : tz_cp (tz_wb w) s k
  · rw [if_pos h1, (hr2 k hk).mpr h1]; simp
  · have h2 : tz_bit r k = false := by
      cases h3 : tz_bit r k
      · rfl
      · exact absurd ((hr2 k hk).mp h3) h1
    rw [if_neg h1, h2, Bool.not_false, Bool.and_true]; rfl
end TZS
