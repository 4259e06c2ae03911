/-! ===== the reference marks a puddle ===== -/
section TZK
variable {B : Int} {Q : Int → ts_M → Prop} {Qv : ts_M → Prop} {M M' M'' : ts_M} {w : Int → Int} {r c p p1 p2 p3 : Int}
theorem tz_sum_step {f : Int → Int} {x : Int} (h : 0 ≤ x) : tz_sum f (x + 1).toNat = tz_sum f x.toNat + f x := by
  rw [show (x + 1).toNat = x.toNat + 1 by omega]
  show _ + f (x.toNat : Int) = _
  rw [Int.toNat_of_nonneg h]
/-- marks: 0 or 1, and within the puddle -/
def tz_MK (w : Int → Int) (s : Nat) (f : Int → Int) : Prop := (∀ k : Nat, k < 64 → f (k : Int) = 0 ∨ f (k : Int) = 1) ∧ (∀ k : Nat, k < 64 → f (k : Int) = 1 → tz_cp (tz_wb w) s k) ∧ (tz_wb w s = true → f (s : Int) = 1)
def tz_dn (w : Int → Int) (f : Int → Int) (k : Nat) : Prop := f (k : Int) = 1 ∨ tz_wb w k = false ∨ ¬ tz_bm f k
theorem tm_marks {s : Nat} (hs : s < 64) (h4 : tz_W4 (M.1 165)) (hQ : ∀ M' : ts_M, tz_FK M M' → (∀ k : Nat, k < 64 → (M'.1 169 (k : Int) = 0 ∨ M'.1 169 (k : Int) = 1) ∧ (M'.1 169 (k : Int) = 1 ↔ tz_cp (tz_wb (M.1 165)) s k)) → Q (tz_pz (M.1 165) s) M') : wX12_marksPuddle (s : Int) Q M := by
  generalize hw : M.1 165 = w at *
  have wet : ∀ k : Nat, k < 64 → (tz_wb w k = true ↔ w (82 + (k : Int)) = 1) := fun k _ => by
    unfold tz_wb tz_we; rw [decide_eq_true_eq]
  have wr : ∀ k : Nat, k < 64 → 0 ≤ w (82 + (k : Int)) ∧ w (82 + (k : Int)) ≤ 1 := fun k hk => h4 (k : Int) (by omega) (by omega)
  simp only [wX12_marksPuddle, forall_eq]
  -- the sum of the marks
  have last : ∀ m : ts_M, tz_FK M m → tz_MK w s (m.1 169) → (∀ k : Nat, k < 64 → tz_dn w (m.1 169) k) → ∃ n, ts_lp2 (wX12_marksPuddle_L115 Q) n 0 0 m := by
    intro m hF ⟨k1, k2, k3⟩ hcl
    have mk : ∀ k : Nat, k < 64 → (m.1 169 (k : Int) = 0 ∨ m.1 169 (k : Int) = 1) ∧ (m.1 169 (k : Int) = 1 ↔ tz_cp (tz_wb w) s k) := fun k hk => ⟨k1 k hk, k2 k hk, fun h => by
      have h1 := h (fun k => k < 64 ∧ m.1 169 (k : Int) = 1) (fun h2 => ⟨hs, k3 h2⟩) (fun i j hi hj h2 h3 h5 => ⟨hj, by
        rcases hcl j hj with h6 | h6 | h6
        · exact h6
        · rw [h5] at h6; cases h6
        · exact absurd ⟨i, hi, h3, h2.2⟩ h6⟩)
      exact h1.2⟩
    refine tz_ex2 (fun d x1 x2 m' => m' = m ∧ 0 ≤ x2 ∧ x2 ≤ 64 ∧ d = (64 - x2).toNat ∧ x1 = tz_sum (m.1 169) x2.toNat) 64 ⟨rfl, by omega, by omega, by omega, rfl⟩ ?_
    rintro k d x1 x2 m' ⟨rfl, i1, i2, i3, rfl⟩ hk
    simp only [wX12_marksPuddle_L115, forall_eq]
    rw [tz_n (x := x2) (by omega) (by omega)]
    by_cases c1 : 64 ≤ x2
    · rw [tz_y c1]
      have c2 : x2 = 64 := by omega
      subst c2
      have := hQ m' hF mk
      unfold tz_pz at this
      rw [← tz_sz_row (P := tz_cp (tz_wb w) s) (f := m'.1 169) mk] at this
      exact this
    · rw [tz_x c1, tz_p ⟨by omega, by omega⟩, ← tz_sum_step i1]
      exact hk (64 - (x2 + 1)).toNat _ _ m' (by omega) ⟨rfl, by omega, by omega, rfl, rfl⟩
  -- passes
  have passes : ∀ m : ts_M, tz_FK M m → tz_MK w s (m.1 169) → ∃ n, ts_lp1 (wX12_marksPuddle_L45 Q) n 1 m := by
    intro m hF hM
    refine tz_ex1 (fun d x1 m' => tz_FK M m' ∧ tz_MK w s (m'.1 169) ∧ (x1 = 1 ∨ (x1 = 0 ∧ ∀ k : Nat, k < 64 → tz_dn w (m'.1 169) k)) ∧ (d : Int) = 2 * (64 - tz_sz (fun k => m'.1 169 (k : Int) = 1)) + x1) (2 * (64 - tz_sz (fun k => m.1 169 (k : Int) = 1)) + 1).toNat ⟨hF, hM, Or.inl rfl, by have := (tz_sz_rng (P := fun k => m.1 169 (k : Int) = 1)).2; omega⟩ ?_
    rintro k45 d x1 m1 ⟨f1, f2, f3, f4⟩ hk45
    simp only [wX12_marksPuddle_L45, forall_eq]
    rcases f3 with f3 | ⟨f3, f5⟩
    · subst f3
      rw [tz_x (by decide)]
      have cnt := tz_sz_rng (P := fun k => m1.1 169 (k : Int) = 1)
      refine tz_ex2 (fun d2 y2 y3 m2 => ∃ q : Nat, y3 = (q : Int) ∧ q ≤ 64 ∧ d2 = 64 - q ∧ tz_FK M m2 ∧ tz_MK w s (m2.1 169) ∧ ((y2 = 0 ∧ m2.1 169 = m1.1 169 ∧ ∀ k : Nat, k < q → tz_dn w (m1.1 169) k) ∨ (y2 = 1 ∧ tz_sz (fun k => m1.1 169 (k : Int) = 1) + 1 ≤ tz_sz (fun k => m2.1 169 (k : Int) = 1)))) 64 ⟨0, rfl, by omega, rfl, f1, f2, Or.inl ⟨rfl, rfl, fun k hk => absurd hk (Nat.not_lt_zero _)⟩⟩ ?_
      rintro k53 d2 y2 y3 m2 ⟨q, rfl, g1, g2, g3, g4, g5⟩ hk53
      have row2 : m2.1 165 = w := by rw [tz_FK_row g3]; exact hw
      simp only [wX12_marksPuddle_L53, wX12_marksPuddle_B101, forall_eq, row2]
      rw [tz_n (x := (q : Int)) (by omega) (by omega), tz_n (x := 82 + (q : Int)) (by omega) (by omega)]
      by_cases c1 : (64 : Int) ≤ (q : Int)
      · rw [tz_y c1]
        have c2 : q = 64 := by omega
        subst c2
        rcases g5 with ⟨h1, h2, h3⟩ | ⟨h1, h2⟩
        · refine hk45 (2 * (64 - tz_sz (fun k => m2.1 169 (k : Int) = 1)) + y2).toNat _ _ ?_ ⟨g3, g4, Or.inr ⟨h1, fun k hk => by rw [h2]; exact h3 k hk⟩, ?_⟩
          · rw [h2, h1]; omega
          · rw [h2, h1]; omega
        · have cnt2 := tz_sz_rng (P := fun k => m2.1 169 (k : Int) = 1)
          refine hk45 (2 * (64 - tz_sz (fun k => m2.1 169 (k : Int) = 1)) + y2).toNat _ _ ?_ ⟨g3, g4, Or.inl h1, ?_⟩
          · rw [h1]; omega
          · rw [h1]; omega
      · rw [tz_x c1, tz_p ⟨by omega, by omega⟩]
        have hq : q < 64 := by omega
        have hmq := g4.1 q hq
        have hq1 : ((q : Int) + 1) = ((q + 1 : Nat) : Int) := by omega
        rw [tz_n (x := m2.1 169 (q : Int)) (by omega) (by omega)]
        -- the cell stays as it is
        have stay : tz_dn w (m2.1 169) q → k53 y2 ((q : Int) + 1) m2 := fun h => by
          refine hk53 (64 - (q + 1)) _ _ m2 (by omega) ⟨q + 1, hq1, by omega, rfl, g3, g4, ?_⟩
          rcases g5 with ⟨h1, h2, h3⟩ | ⟨h1, h2⟩
          · refine Or.inl ⟨h1, h2, fun k hk => ?_⟩
            by_cases c3 : k = q
            · rw [c3, ← h2]; exact h
            · exact h3 k (by omega)
          · exact Or.inr ⟨h1, h2⟩
        by_cases c2 : m2.1 169 (q : Int) = 1
        · rw [tz_y c2]; exact stay (Or.inl c2)
        · rw [tz_x c2, tz_p ⟨by omega, by omega⟩]
          have wq := wr q hq
          rw [tz_n (x := w (82 + (q : Int))) (by omega) (by omega)]
          by_cases c3 : w (82 + (q : Int)) = 0
          · rw [tz_y c3]
            refine stay (Or.inr (Or.inl ?_))
            cases h : tz_wb w q
            · rfl
            · have := (wet q hq).mp h; omega
          · rw [tz_x c3]
            have wq1 : tz_wb w q = true := (wet q hq).mpr (by omega)
            refine tm_beside hq g4.1 (fun h => ?_) (fun h => ?_)
            · rw [tz_x2 (by decide), tz_p ⟨by omega, by omega⟩]
              obtain ⟨j, hj, ha, hm⟩ := h
              have cq : tz_cp (tz_wb w) s q := tz_cp_step (g4.2.1 j hj hm) hj hq ha wq1
              have e1 : ∀ k : Nat, (ts_si m2 169 (q : Int) 1).1 169 (k : Int) = if k = q then 1 else m2.1 169 (k : Int) := fun k => by
                by_cases c4 : k = q
                · rw [if_pos c4, c4, tz_si_a]
                · rw [if_neg c4, tz_si_k (by omega)]
              refine hk53 (64 - (q + 1)) _ _ _ (by omega) ⟨q + 1, hq1, by omega, rfl, tz_FK_tr g3 ⟨fun a h => ts_si_ne h, rfl⟩, ⟨fun k hk => ?_, fun k hk h => ?_, fun h => ?_⟩, Or.inr ⟨rfl, ?_⟩⟩
              · rw [e1]; split
                · exact Or.inr rfl
                · exact g4.1 k hk
              · rw [e1] at h
                by_cases c4 : k = q
                · rw [c4]; exact cq
                · rw [if_neg c4] at h; exact g4.2.1 k hk h
              · rw [e1]; split
                · rfl
                · exact g4.2.2 h
              · have e2 : tz_sz (fun k => (ts_si m2 169 (q : Int) 1).1 169 (k : Int) = 1) = tz_sz (fun k => m2.1 169 (k : Int) = 1 ∨ k = q) := tz_sz_eq (fun k hk => by
                  rw [e1]
                  by_cases c4 : k = q
                  · rw [if_pos c4]; exact ⟨fun _ => Or.inr c4, fun _ => rfl⟩
                  · rw [if_neg c4]
                    exact ⟨fun h => Or.inl h, fun h => by
                      rcases h with h | h
                      · exact h
                      · exact absurd h c4⟩)
                have e3 : tz_sz (fun k => m2.1 169 (k : Int) = 1 ∨ k = q) = tz_sz (fun k => m2.1 169 (k : Int) = 1) + 1 := tz_sz_add (P := fun k => m2.1 169 (k : Int) = 1) c2 (fun k => Iff.rfl) (n := 64) hq
                rw [e2, e3]
                rcases g5 with ⟨h1, h2, h3⟩ | ⟨h1, h2⟩
                · rw [h2]; omega
                · omega
            · rw [tz_y2 tz_n0]
              exact stay (Or.inr (Or.inr h))
    · subst f3
      rw [tz_y tz_n0]
      exact last m1 f1 f2 f5
  -- the first marks
  refine tz_ex2 (fun d x1 x2 m => ∃ q : Nat, x1 = (s : Int) ∧ x2 = (q : Int) ∧ q ≤ 64 ∧ d = 64 - q ∧ tz_FK M m ∧ ∀ k : Nat, k < q → m.1 169 (k : Int) = if k = s ∧ tz_wb w s = true then 1 else 0) 64 ⟨0, rfl, rfl, by omega, rfl, tz_FK_rfl, fun k hk => absurd hk (Nat.not_lt_zero _)⟩ ?_
  rintro k2 d x1 x2 m ⟨q, rfl, rfl, g1, g2, g3, g4⟩ hk2
  have row2 : m.1 165 = w := by rw [tz_FK_row g3]; exact hw
  simp only [wX12_marksPuddle_L2, wX12_marksPuddle_B35, wX12_marksPuddle_B36, forall_eq, row2]
  rw [tz_n (x := (q : Int)) (by omega) (by omega), tz_n (x := 82 + (q : Int)) (by omega) (by omega), tz_n (x := (s : Int)) (by omega) (by omega)]
  by_cases c1 : (64 : Int) ≤ (q : Int)
  · rw [tz_y c1]
    have c2 : q = 64 := by omega
    subst c2
    refine passes m g3 ⟨fun k hk => ?_, fun k hk h => ?_, fun h => ?_⟩
    · rw [g4 k hk]; split
      · exact Or.inr rfl
      · exact Or.inl rfl
    · rw [g4 k hk] at h
      by_cases c3 : k = s ∧ tz_wb w s = true
      · rw [c3.1]; exact tz_cp_self c3.2
      · rw [if_neg c3] at h; cases h
    · rw [g4 s hs, if_pos ⟨rfl, h⟩]
  · rw [tz_x c1]
    have hq : q < 64 := by omega
    have hq1 : ((q : Int) + 1) = ((q + 1 : Nat) : Int) := by omega
    have wq := wr q hq
    have nxt : ∀ v : Int, v = (if q = s ∧ tz_wb w s = true then 1 else 0) → k2 (s : Int) ((q : Int) + 1) (ts_si m 169 (q : Int) v) := fun v hv => by
      refine hk2 (64 - (q + 1)) _ _ _ (by omega) ⟨q + 1, rfl, hq1, by omega, rfl, tz_FK_tr g3 ⟨fun a h => ts_si_ne h, rfl⟩, fun k hk => ?_⟩
      by_cases c3 : k = q
      · rw [c3, tz_si_a]; exact hv
      · rw [tz_si_k (by omega)]; exact g4 k (by omega)
    by_cases c2 : (q : Int) = (s : Int)
    · have c3 : q = s := by omega
      rw [tz_y2 c2, tz_p ⟨by omega, by omega⟩, tz_n (x := w (82 + (q : Int))) (by omega) (by omega)]
      by_cases c4 : w (82 + (q : Int)) = 1
      · rw [tz_y2 c4, tz_p ⟨by omega, by omega⟩]
        refine nxt 1 ?_
        rw [if_pos ⟨c3, by rw [← c3]; exact (wet q hq).mpr c4⟩]
      · rw [tz_x2 c4, tz_p ⟨by omega, by omega⟩]
        refine nxt 0 ?_
        rw [if_neg (fun h => c4 ((wet q hq).mp (by rw [c3]; exact h.2)))]
    · rw [tz_x2 c2, tz_p ⟨by omega, by omega⟩]
      refine nxt 0 ?_
      rw [if_neg (fun h => c2 (by omega))]
theorem tm_largest (h4 : tz_W4 (M.1 165)) (hQ : ∀ M' : ts_M, tz_FK M M' → Q (tz_lg (M.1 165)) M') : wX12_largest Q M := by
  simp only [wX12_largest, forall_eq]
  refine tz_ex2 (fun d x1 x2 m => ∃ q : Nat, x2 = (q : Int) ∧ q ≤ 64 ∧ d = 64 - q ∧ tz_FK M m ∧ x1 = tz_mx (tz_pz (M.1 165)) q ∧ 0 ≤ x1 ∧ x1 ≤ 64) 64 ⟨0, rfl, by omega, rfl, tz_FK_rfl, rfl, by omega, by omega⟩ ?_
  rintro k d x1 x2 m ⟨q, rfl, g1, g2, g3, g4, g5, g6⟩ hk
  simp only [wX12_largest_L4, wX12_largest_B26, forall_eq]
  rw [tz_n (x := (q : Int)) (by omega) (by omega)]
  by_cases c1 : (64 : Int) ≤ (q : Int)
  · rw [tz_y c1]
    have c2 : q = 64 := by omega
    subst c2
    rw [g4]; exact hQ m g3
  · rw [tz_x c1]
    have row2 := tz_FK_row g3
    refine tm_marks (by omega) (by rw [row2]; exact h4) (fun m2 h1 _ => ?_)
    rw [row2]
    have hz : 0 ≤ tz_pz (M.1 165) q ∧ tz_pz (M.1 165) q ≤ 64 := tz_sz_rng
    have st : tz_mx (tz_pz (M.1 165)) (q + 1) = if x1 < tz_pz (M.1 165) q then tz_pz (M.1 165) q else x1 := by rw [g4]; rfl
    rw [tz_n (x := x1) (by omega) (by omega), tz_n (x := tz_pz (M.1 165) q) (by omega) (by omega)]
    by_cases c2 : x1 < tz_pz (M.1 165) q
    · rw [tz_x (by omega)]
      rw [if_pos c2] at st
      exact hk (64 - (q + 1)) _ _ m2 (by omega) ⟨q + 1, by omega, by omega, rfl, tz_FK_tr g3 h1, st.symm, by omega, by omega⟩
    · rw [tz_y (by omega)]
      rw [if_neg c2] at st
      exact hk (64 - (q + 1)) _ _ m2 (by omega) ⟨q + 1, by omega, by omega, rfl, tz_FK_tr g3 h1, st.symm, by omega, by omega⟩
theorem tm_puddleCount (h4 : tz_W4 (M.1 165)) (hQ : ∀ M' : ts_M, tz_FK (ts_si M 164 0 0) M' → Q (tz_sz (tz_ld (tz_wb (M.1 165)))) M') : wX12_puddleCount Q M := by
  have r0 : (ts_si M 164 0 0).1 165 = M.1 165 := ts_si_ne (by decide)
  generalize hw : M.1 165 = w at *
  have wr : ∀ k : Nat, k < 64 → 0 ≤ w (82 + (k : Int)) ∧ w (82 + (k : Int)) ≤ 1 := fun k hk => h4 (k : Int) (by omega) (by omega)
  simp only [wX12_puddleCount, forall_eq]
  refine tz_ex2 (fun d x1 x2 m => ∃ q : Nat, x2 = (q : Int) ∧ q ≤ 64 ∧ d = 64 - q ∧ tz_FK (ts_si M 164 0 0) m ∧ x1 = tz_sum (fun k => @ite Int (tz_ld (tz_wb w) k.toNat) (Classical.propDecidable _) 1 0) q) 64 ⟨0, rfl, by omega, rfl, tz_FK_rfl, rfl⟩ ?_
  rintro k9 d x1 x2 m ⟨q, rfl, g1, g2, g3, rfl⟩ hk9
  have row2 : m.1 165 = w := by rw [tz_FK_row g3]; exact r0
  simp only [wX12_puddleCount_L9, wX12_puddleCount_B73, forall_eq, row2]
  rw [tz_n (x := (q : Int)) (by omega) (by omega), tz_n (x := 82 + (q : Int)) (by omega) (by omega)]
  by_cases c1 : (64 : Int) ≤ (q : Int)
  · rw [tz_y c1]
    have c2 : q = 64 := by omega
    subst c2
    exact hQ m g3
  · rw [tz_x c1, tz_p ⟨by omega, by omega⟩]
    have hq : q < 64 := by omega
    have wq := wr q hq
    have st : tz_sum (fun k => @ite Int (tz_ld (tz_wb w) k.toNat) (Classical.propDecidable _) 1 0) (q + 1) = tz_sum (fun k => @ite Int (tz_ld (tz_wb w) k.toNat) (Classical.propDecidable _) 1 0) q + @ite Int (tz_ld (tz_wb w) q) (Classical.propDecidable _) 1 0 := rfl
    rw [tz_n (x := w (82 + (q : Int))) (by omega) (by omega)]
    by_cases c2 : w (82 + (q : Int)) = 0
    · rw [tz_y2 c2]
      have nl : ¬ tz_ld (tz_wb w) q := fun h => by
        have := h.2.1
        unfold tz_wb tz_we at this
        rw [decide_eq_true_eq] at this; omega
      rw [if_neg nl, Int.add_zero] at st
      exact hk9 (64 - (q + 1)) _ _ m (by omega) ⟨q + 1, by omega, by omega, rfl, g3, st.symm⟩
    · rw [tz_x2 c2]
      have wq1 : tz_wb w q = true := by unfold tz_wb tz_we; rw [decide_eq_true_eq]; omega
      refine tm_marks hq (by rw [row2]; exact h4) (fun m2 h1 hm => ?_)
      rw [row2] at hm ⊢
      have hz : 1 ≤ tz_pz w q ∧ tz_pz w q ≤ 64 := by
        have h5 := tz_sz_less (P := tz_cp (tz_wb w) q) (P2 := fun _ => False) hq (tz_cp_self wq1) (fun h => h) (fun _ _ h => h.elim)
        have h6 := (tz_sz_rng (P := fun _ => False)).1
        have h7 := (tz_sz_rng (P := tz_cp (tz_wb w) q)).2
        unfold tz_pz; omega
      have hFm := tz_FK_tr g3 h1
      refine tz_ex4 (fun d2 y1 y2 y3 y4 m3 => ∃ j : Nat, m3 = m2 ∧ y1 = tz_sum (fun k => @ite Int (tz_ld (tz_wb w) k.toNat) (Classical.propDecidable _) 1 0) q ∧ y2 = (q : Int) ∧ y3 = tz_pz w q ∧ y4 = (j : Int) ∧ j ≤ q ∧ d2 = q - j ∧ ∀ i : Nat, i < j → ¬ tz_cp (tz_wb w) q i) q ⟨0, rfl, rfl, rfl, rfl, rfl, by omega, rfl, fun i hi => absurd hi (Nat.not_lt_zero _)⟩ ?_
      rintro k39 d2 y1 y2 y3 y4 m3 ⟨j, rfl, rfl, rfl, rfl, rfl, j1, j2, j3⟩ hk39
      have mj := hm j (by omega)
      simp only [wX12_puddleCount_L39, wX12_puddleCount_B70, wX12_puddleCount_B71, wX12_puddleCount_B73, forall_eq]
      rw [tz_n (x := (j : Int)) (by omega) (by omega), tz_n (x := (q : Int)) (by omega) (by omega), tz_n (x := tz_pz w q) (by omega) (by omega), tz_n (x := m3.1 169 (j : Int)) (by omega) (by omega), tz_p ⟨by omega, by omega⟩]
      by_cases b1 : m3.1 169 (j : Int) = 0
      · rw [tz_y2 b1]
        have njq : j ≠ q := fun h => by
          rw [h] at b1 mj
          have := mj.2.mpr (tz_cp_self wq1); omega
        refine hk39 (q - (j + 1)) _ _ _ _ m3 (by omega) ⟨j + 1, rfl, rfl, rfl, rfl, by omega, by omega, rfl, fun i hi h => ?_⟩
        by_cases b2 : i = j
        · rw [b2] at h; have := mj.2.mpr h; omega
        · exact j3 i (by omega) h
      · rw [tz_x2 b1]
        have cj : tz_cp (tz_wb w) q j := mj.2.mp (by omega)
        by_cases b2 : (j : Int) = (q : Int)
        · rw [tz_y2 b2, tz_x (by omega)]
          have b3 : j = q := by omega
          have yl : tz_ld (tz_wb w) q := ⟨hq, wq1, fun i hi => j3 i (by omega)⟩
          rw [if_pos yl] at st
          exact hk9 (64 - (q + 1)) _ _ m3 (by omega) ⟨q + 1, by omega, by omega, rfl, hFm, st.symm⟩
        · rw [tz_x2 b2, Int.add_zero]
          have nl : ¬ tz_ld (tz_wb w) q := fun h => h.2.2 j (by omega) cj
          rw [if_neg nl, Int.add_zero] at st
          exact hk9 (64 - (q + 1)) _ _ m3 (by omega) ⟨q + 1, by omega, by omega, rfl, hFm, st.symm⟩
/-- the row of a spill -/
noncomputable def to_spill (w : Int → Int) (r c n : Int) : Int → Int := if tz_lg (to_wns w r c n.toNat) < 20 then to_wns w r c n.toNat else to_adj (to_wns w r c n.toNat)
/-- nothing but row and marks has changed -/
def tz_FR (M M' : ts_M) : Prop := (∀ a : Nat, a ≠ 165 → a ≠ 169 → M'.1 a = M.1 a) ∧ M'.2 = M.2
theorem to_adj_we {k : Int} (h0 : 0 ≤ w 0 ∧ w 0 ≤ 8) (h : 0 ≤ k) : tz_we (to_adj w) k = tz_we w k := by
  unfold tz_we to_adj
  have e0 : ts_fu w 5 (w 5 + 1) 0 = w 0 := tz_fu_n (by omega)
  rw [to_emp_o (by rw [e0]; omega), tz_fu_n (by omega)]
theorem tm_spills (hr : 0 ≤ p1 ∧ p1 ≤ 7) (hc : 0 ≤ p2 ∧ p2 ≤ 7) (hn : 1 ≤ p3 ∧ p3 ≤ 30) (hW : tz_W B (M.1 165)) (hQ : ∀ M' : ts_M, tz_FR M M' → M'.1 165 = to_spill (M.1 165) p1 p2 p3 → Q (tz_sum (tz_we (to_spill (M.1 165) p1 p2 p3)) 64) M') : wX12_spills p1 p2 p3 Q M := by
  have h4 := tz_W_4 hW
  have g0 := hW.1
  simp only [wX12_spills, forall_eq]
  refine tz_ex4 (fun d x1 x2 x3 x4 m => ∃ q : Nat, x1 = p1 ∧ x2 = p2 ∧ x3 = p3 ∧ x4 = (q : Int) ∧ (q : Int) ≤ p3 ∧ d = (p3 - x4).toNat ∧ m = tz_sr M (to_wns (M.1 165) p1 p2 q)) p3.toNat ⟨0, rfl, rfl, rfl, rfl, by omega, by omega, tz_sr_id.symm⟩ ?_
  rintro k d x1 x2 x3 x4 m ⟨q, rfl, rfl, rfl, rfl, i1, i2, rfl⟩ hk
  have rw1 : (tz_sr M (to_wns (M.1 165) x1 x2 q)).1 165 = to_wns (M.1 165) x1 x2 q := tz_sr_get
  have w4 := to_wns_W4 hr hc h4 q
  simp only [wX12_spills_L3, wX12_spills_B34, forall_eq]
  rw [tz_n (x := x3) (by omega) (by omega), tz_n (x := (q : Int)) (by omega) (by omega)]
  by_cases c1 : x3 ≤ (q : Int)
  · rw [tz_y c1]
    have c2 : x3.toNat = q := by omega
    refine tm_largest (by rw [rw1]; exact w4) (fun m2 h1 => ?_)
    rw [rw1]
    have row2 : m2.1 165 = to_wns (M.1 165) x1 x2 q := by rw [tz_FK_row h1]; exact rw1
    have hFR : tz_FR M m2 := ⟨fun a h2 h3 => (h1.1 a h3).trans (tz_sr_ne h2), h1.2⟩
    have hz : 0 ≤ tz_lg (to_wns (M.1 165) x1 x2 q) ∧ tz_lg (to_wns (M.1 165) x1 x2 q) ≤ 64 := by
      have gen : ∀ n : Nat, 0 ≤ tz_mx (tz_pz (to_wns (M.1 165) x1 x2 q)) n ∧ tz_mx (tz_pz (to_wns (M.1 165) x1 x2 q)) n ≤ 64 := by
        intro n
        induction n with
        | zero => exact ⟨Int.le_refl 0, by show (0 : Int) ≤ 64; omega⟩
        | succ n ihn =>
          have h5 : 0 ≤ tz_pz (to_wns (M.1 165) x1 x2 q) n ∧ tz_pz (to_wns (M.1 165) x1 x2 q) n ≤ 64 := tz_sz_rng
          unfold tz_mx
          split
          · exact h5
          · exact ihn
      exact gen 64
    rw [tz_n (x := tz_lg _) (by omega) (by omega)]
    unfold to_spill at hQ
    rw [c2] at hQ
    by_cases c3 : tz_lg (to_wns (M.1 165) x1 x2 q) < 20
    · rw [tz_y c3, tm_wets (by rw [row2]; exact w4), row2]
      rw [if_pos c3] at hQ
      exact hQ m2 hFR row2
    · rw [if_neg c3] at hQ
      have z0 : to_wns (M.1 165) x1 x2 q 0 = M.1 165 0 := to_wns_o hr hc (by omega)
      rw [tz_x c3, tm_adjourns (by rw [row2, z0]; exact g0.1) (by rw [row2, z0]; exact g0.2), row2, tm_wets (by
        rw [tz_sr_get]
        intro k h1 h2
        rw [to_adj_we (by rw [z0]; exact g0) h1]; exact w4 k h1 h2), tz_sr_get]
      exact hQ _ ⟨fun a h2 h3 => (tz_sr_ne h2).trans (hFR.1 a h2 h3), hFR.2⟩ tz_sr_get
  · rw [tz_x c1, tm_wetsNext hr hc (by rw [rw1]; exact w4), rw1, tz_sr_sr]
    exact hk (x3 - ((q : Int) + 1)).toNat _ _ _ _ _ (by omega) ⟨q + 1, rfl, rfl, rfl, by omega, by omega, rfl, rfl⟩
theorem tm_mops {s : Nat} (hs : s < 64) (he : 8 * p1 + p2 = (s : Int)) (hW : tz_W B (M.1 165)) (hQ : ∀ M' : ts_M, tz_FR M M' → tz_E (to_mop (M.1 165) s) (M'.1 165) → Q (tz_pz (M.1 165) s) M') : wX12_mops p1 p2 Q M := by
  have h4 := tz_W_4 hW
  simp only [wX12_mops, forall_eq]
  rw [he]
  refine tm_marks hs h4 (fun m1 h1 hm => ?_)
  have row1 := tz_FK_row h1
  refine tz_ex2 (fun d x1 x2 m => ∃ q : Nat, x1 = tz_pz (M.1 165) s ∧ x2 = (q : Int) ∧ q ≤ 64 ∧ d = 64 - q ∧ m = tz_sr m1 (fun j => if 82 ≤ j ∧ j < 82 + (q : Int) then M.1 165 j - m1.1 169 (j - 82) else M.1 165 j)) 64 ⟨0, rfl, rfl, by omega, rfl, ?_⟩ ?_
  · have e1 : (fun j => if 82 ≤ j ∧ j < 82 + (((0 : Nat) : Int)) then M.1 165 j - m1.1 169 (j - 82) else M.1 165 j) = m1.1 165 := by
      funext j
      rw [if_neg (by omega), row1]
    rw [e1, tz_sr_id]
  · rintro k d x1 x2 m ⟨q, rfl, rfl, i1, i2, rfl⟩ hk
    simp only [wX12_mops_L14, forall_eq]
    rw [tz_n (x := (q : Int)) (by omega) (by omega), tz_n (x := 82 + (q : Int)) (by omega) (by omega)]
    by_cases c1 : (64 : Int) ≤ (q : Int)
    · rw [tz_y c1]
      have c2 : q = 64 := by omega
      subst c2
      refine hQ _ ⟨fun a h2 h3 => (tz_sr_ne h2).trans (h1.1 a h3), h1.2⟩ (fun j hj1 hj2 => ?_)
      rw [tz_sr_get]
      unfold to_mop
      by_cases c3 : 82 ≤ j
      · have c4 : 82 ≤ j ∧ j < 82 + (((64 : Nat) : Int)) := ⟨c3, by omega⟩
        rw [if_pos c4]
        have mk := hm (j - 82).toNat (by omega)
        rw [Int.toNat_of_nonneg (by omega)] at mk
        by_cases c5 : tz_cp (tz_wb (M.1 165)) s (j - 82).toNat
        · rw [if_pos ⟨c3, by omega, c5⟩, mk.2.mpr c5]
          have := tz_cp_wet c5
          unfold tz_wb tz_we at this
          rw [decide_eq_true_eq, Int.toNat_of_nonneg (by omega), show 82 + (j - 82) = j by omega] at this
          omega
        · rw [if_neg (fun h => c5 h.2.2)]
          rcases mk.1 with h | h
          · omega
          · exact absurd (mk.2.mp h) c5
      · rw [if_neg (fun h => c3 h.1), if_neg (fun h => c3 h.1)]
    · rw [tz_x c1, tz_p ⟨by omega, by omega⟩, tz_p ⟨by omega, by omega⟩, tz_p ⟨by omega, by omega⟩]
      refine hk (64 - (q + 1)) _ _ _ (by omega) ⟨q + 1, rfl, by omega, by omega, rfl, ?_⟩
      rw [tz_si_srr, tz_sr_get, tz_sr_ne (by decide)]
      congr 1
      funext j
      unfold ts_fu
      dsimp only
      by_cases c3 : j = 82 + (q : Int)
      · rw [if_pos c3, if_neg (by omega), if_pos (by omega), c3, show 82 + (q : Int) - 82 = (q : Int) by omega]
      · rw [if_neg c3]
        by_cases c4 : 82 ≤ j ∧ j < 82 + (q : Int)
        · rw [if_pos c4, if_pos (by omega)]
        · rw [if_neg c4, if_neg (by omega)]
end TZK
