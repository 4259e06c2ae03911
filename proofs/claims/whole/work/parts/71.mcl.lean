/-! ===== the reference: puddles, spilling, mopping ===== -/
noncomputable def tz_pz (w : Int → Int) (k : Nat) : Int := tz_sz (tz_cp (tz_wb w) k)
noncomputable def tz_lg (w : Int → Int) : Int := tz_mx (tz_pz w) 64
/-- nothing but the marks has changed -/
def tz_FK (M M' : ts_M) : Prop := (∀ a : Nat, a ≠ 169 → M'.1 a = M.1 a) ∧ M'.2 = M.2
section TZU
variable {B : Int} {Q : Int → ts_M → Prop} {Qv : ts_M → Prop} {M M' M'' : ts_M} {w : Int → Int} {r c p p1 p2 p3 : Int}
theorem tz_FK_rfl : tz_FK M M := ⟨fun _ _ => rfl, rfl⟩
theorem tz_FK_tr (h1 : tz_FK M M') (h2 : tz_FK M' M'') : tz_FK M M'' := ⟨fun a h => (h2.1 a h).trans (h1.1 a h), h2.2.trans h1.2⟩
theorem tz_FK_row (h : tz_FK M M') : M'.1 165 = M.1 165 := h.1 165 (by decide)
theorem tm_wets (h4 : tz_W4 (M.1 165)) : wX12_wets Q M ↔ Q (tz_sum (tz_we (M.1 165)) 64) M := by
  simp only [wX12_wets, forall_eq]
  refine tz_it2 (fun d x1 x2 M' => M' = M ∧ 0 ≤ x2 ∧ x2 ≤ 64 ∧ d = (64 - x2).toNat ∧ x1 = tz_sum (tz_we (M.1 165)) x2.toNat) ?_ 64 ⟨rfl, by omega, by omega, by omega, rfl⟩
  rintro d x1 x2 M' ⟨rfl, h2, h3, h5, rfl⟩
  simp only [wX12_wets_L4, forall_eq]
  rw [tz_n (x := x2) (by omega) (by omega), tz_n (x := 82 + x2) (by omega) (by omega)]
  by_cases c1 : 64 ≤ x2
  · left
    intro k
    have c2 : x2 = 64 := by omega
    subst c2
    exact tz_y c1
  · right
    refine ⟨(64 - (x2 + 1)).toNat, _, x2 + 1, M', by omega, ⟨rfl, by omega, by omega, rfl, rfl⟩, ?_⟩
    intro k
    have e2 : tz_sum (tz_we (M'.1 165)) (x2 + 1).toNat = tz_sum (tz_we (M'.1 165)) x2.toNat + M'.1 165 (82 + x2) := by
      rw [show (x2 + 1).toNat = x2.toNat + 1 by omega]
      show _ + tz_we (M'.1 165) (x2.toNat : Int) = _
      rw [Int.toNat_of_nonneg h2]; rfl
    rw [e2, tz_x c1, tz_p ⟨by omega, by omega⟩]
theorem tm_wetsNext (hr : 0 ≤ p1 ∧ p1 ≤ 7) (hc : 0 ≤ p2 ∧ p2 ≤ 7) (h4 : tz_W4 (M.1 165)) : wX12_wetsNext p1 p2 Qv M ↔ Qv (tz_sr M (to_wn (M.1 165) p1 p2)) := by
  simp only [wX12_wetsNext, forall_eq]
  have sp := tz_bst_spec (w := M.1 165) hr hc
  have main : ∀ (n : Nat) (x3 x4 x5 : Int), (n : Int) = 64 - x5 → 0 ≤ x5 → x5 ≤ 64 → tz_bst (M.1 165) p1 p2 x5.toNat = (x4, x3) → ((∃ f, ts_lp5 (wX12_wetsNext_L9 Qv) f p1 p2 x3 x4 x5 M) ↔ Qv (tz_sr M (to_wn (M.1 165) p1 p2))) := by
    intro n
    induction n with
    | zero =>
      intro x3 x4 x5 h1 h2 h3 h5
      have c1 : x5 = 64 := by omega
      subst c1
      have h5' : tz_bst (M.1 165) p1 p2 64 = (x4, x3) := h5
      have hb := sp 64 (Nat.le_refl _)
      rw [h5'] at hb
      have x3r : -1 ≤ x3 ∧ x3 < 64 := by
        rcases hb with ⟨g1, _⟩ | ⟨g1, g2, _⟩
        · cases g1; omega
        · have g1' : 0 ≤ x3 := g1
          have g2' : x3 < 64 := g2
          omega
      have body : ∀ k, wX12_wetsNext_L9 Qv k p1 p2 x3 x4 64 M ↔ Qv (tz_sr M (to_wn (M.1 165) p1 p2)) := fun k => by
        simp only [wX12_wetsNext_L9, wX12_wetsNext_B88, forall_eq]
        rw [tz_n (x := 64) (by omega) (by omega), tz_y (Int.le_refl _), tz_n (x := x3) (by omega) (by omega), tz_n (x := 82 + x3) (by omega) (by omega)]
        unfold to_wn
        rw [h5']
        show _ ↔ Qv (tz_sr M (if x3 < 0 then M.1 165 else ts_fu (M.1 165) (82 + x3) 1))
        by_cases c2 : x3 < 0
        · rw [tz_y c2, if_pos c2, tz_sr_id]
        · rw [tz_x c2, if_neg c2, tz_p ⟨by omega, by omega⟩, tz_si_sr]
      constructor
      · rintro ⟨f, hf⟩
        cases f with
        | zero => exact hf.elim
        | succ f => exact (body _).mp hf
      · intro h; exact ⟨1, (body _).mpr h⟩
    | succ n ihn =>
      intro x3 x4 x5 h1 h2 h3 h5
      have c1 : ¬ 64 ≤ x5 := by omega
      have n5 : ts_w x5 = x5 := tz_n (by omega) (by omega)
      have hw := h4 x5 h2 (by omega)
      have e1 : ts_div x5 8 = x5 / 8 := tz_div h2 (by omega) (by omega) (by omega)
      have e2 : ts_rem x5 8 = x5 % 8 := tz_rem h2 (by omega) (by omega) (by omega)
      have hf := tz_far_rng hr hc (k := x5) ⟨h2, by omega⟩
      have hb := sp x5.toNat (by omega)
      rw [h5] at hb
      have x4r : 0 ≤ x4 ∧ x4 ≤ 99 := by
        rcases hb with ⟨g1, _⟩ | ⟨g1, g2, g3, _⟩
        · cases g1; omega
        · have g3' : x4 = tz_far p1 p2 x3 := g3
          have g1' : 0 ≤ x3 := g1
          have g2' : x3 < ((x5.toNat : Nat) : Int) := g2
          have := tz_far_rng hr hc (k := x3) ⟨g1', by omega⟩
          omega
      have ihs : ∀ y3 y4 : Int, tz_bst (M.1 165) p1 p2 (x5 + 1).toNat = (y4, y3) → ((∃ f, ts_lp5 (wX12_wetsNext_L9 Qv) f p1 p2 y3 y4 (x5 + 1) M) ↔ Qv (tz_sr M (to_wn (M.1 165) p1 p2))) := fun y3 y4 h => ihn y3 y4 (x5 + 1) (by omega) (by omega) (by omega) h
      have st : tz_bst (M.1 165) p1 p2 (x5 + 1).toNat = if tz_we (M.1 165) x5 = 1 ∨ x4 ≤ tz_far p1 p2 x5 then (x4, x3) else (tz_far p1 p2 x5, x5) := by
        rw [show (x5 + 1).toNat = x5.toNat + 1 by omega]
        conv => lhs; unfold tz_bst
        rw [h5, Int.toNat_of_nonneg h2]
      have body : ∀ k, wX12_wetsNext_L9 Qv k p1 p2 x3 x4 x5 M ↔ (if tz_we (M.1 165) x5 = 1 ∨ x4 ≤ tz_far p1 p2 x5 then k p1 p2 x3 x4 (x5 + 1) M else k p1 p2 x5 (tz_far p1 p2 x5) (x5 + 1) M) := fun k => by
        have far : tz_df (x5 / 8) p1 + tz_df (x5 % 8) p2 = tz_far p1 p2 x5 := rfl
        simp only [wX12_wetsNext_L9, wX12_wetsNext_B68, forall_eq]
        rw [n5, tz_x c1, e1, e2, tm_difference (by omega) (by omega) hr.1 (by omega), tm_difference (by omega) (by omega) hc.1 (by omega), far, tz_n (x := 82 + x5) (by omega) (by omega), tz_p ⟨by omega, by omega⟩, tz_n (x := tz_far p1 p2 x5) (by omega) (by omega), tz_n (x := x4) (by omega) (by omega)]
        have ew : M.1 165 (82 + x5) = tz_we (M.1 165) x5 := rfl
        rw [ew, tz_n (x := tz_we (M.1 165) x5) (by omega) (by omega)]
        by_cases b1 : tz_we (M.1 165) x5 = 1
        · rw [tz_y b1, if_pos (Or.inl b1)]
        · rw [tz_x b1]
          by_cases b2 : tz_far p1 p2 x5 < x4
          · rw [tz_y b2, if_neg (by intro h; rcases h with h | h; exact b1 h; omega)]
          · rw [tz_x b2, if_pos (Or.inr (by omega))]
      by_cases b : tz_we (M.1 165) x5 = 1 ∨ x4 ≤ tz_far p1 p2 x5
      · rw [if_pos b] at st
        have ih := ihs x3 x4 st
        constructor
        · rintro ⟨f, hf⟩
          cases f with
          | zero => exact hf.elim
          | succ f =>
            have h := (body _).mp hf
            rw [if_pos b] at h
            exact ih.mp ⟨f, h⟩
        · intro h
          obtain ⟨f, hf⟩ := ih.mpr h
          exact ⟨f + 1, (body _).mpr (by rw [if_pos b]; exact hf)⟩
      · rw [if_neg b] at st
        have ih := ihs x5 (tz_far p1 p2 x5) st
        constructor
        · rintro ⟨f, hf⟩
          cases f with
          | zero => exact hf.elim
          | succ f =>
            have h := (body _).mp hf
            rw [if_neg b] at h
            exact ih.mp ⟨f, h⟩
        · intro h
          obtain ⟨f, hf⟩ := ih.mpr h
          exact ⟨f + 1, (body _).mpr (by rw [if_neg b]; exact hf)⟩
  exact main 64 (-1) 99 0 (by omega) (by omega) (by omega) rfl
/-- whether a cell is beside a marked one -/
def tz_bm (f : Int → Int) (k : Nat) : Prop := ∃ j : Nat, j < 64 ∧ tz_adj j k = true ∧ f (j : Int) = 1
theorem tm_beside {k : Nat} (hk : k < 64) (hf : ∀ j : Nat, j < 64 → M.1 169 (j : Int) = 0 ∨ M.1 169 (j : Int) = 1) (hy : tz_bm (M.1 169) k → Q 1 M) (hn : ¬ tz_bm (M.1 169) k → Q 0 M) : wX12_isBesideMarked (k : Int) Q M := by
  have wf : ∀ j : Int, 0 ≤ j → j < 64 → ts_w (M.1 169 j) = M.1 169 j := fun j h1 h2 => by
    have := hf j.toNat (by omega)
    rw [Int.toNat_of_nonneg h1] at this
    exact tz_n (by omega) (by omega)
  have yes : ∀ j : Int, 0 ≤ j → j < 64 → tz_adj j.toNat k = true → M.1 169 j = 1 → tz_bm (M.1 169) k := fun j h1 h2 h3 h4 => ⟨j.toNat, by omega, h3, by rw [Int.toNat_of_nonneg h1]; exact h4⟩
  have b64 : (∀ j : Nat, j < 64 → tz_adj j k = true → M.1 169 (j : Int) = 1 → j = k + 1) → wX12_isBesideMarked_B64 Q (k : Int) ((k : Int) % 8) M := fun h => by
    simp only [wX12_isBesideMarked_B64, wX12_isBesideMarked_B82, wX12_isBesideMarked_B86, wX12_isBesideMarked_B87, tz_g0, tz_g1]
    rw [tz_n (x := (k : Int) % 8) (by omega) (by omega), tz_n (x := (k : Int) + 1) (by omega) (by omega)]
    refine ⟨fun c1 => hn ?_, fun c1 => ⟨⟨by omega, by omega⟩, fun c2 => hn ?_, fun c2 => hy ?_⟩⟩
    · rintro ⟨j, h1, h2, h3⟩
      have h4 := h j h1 h2 h3
      subst h4
      unfold tz_adj at h2
      simp at h2
      omega
    · rintro ⟨j, h1, h2, h3⟩
      have h4 := h j h1 h2 h3
      subst h4
      rw [wf _ (by omega) (by omega)] at c2
      exact c2 h3
    · rw [wf _ (by omega) (by omega)] at c2
      refine yes _ (by omega) (by omega) ?_ c2
      unfold tz_adj
      simp
      omega
  have b48 : (∀ j : Nat, j < 64 → tz_adj j k = true → M.1 169 (j : Int) = 1 → j = k + 1 ∨ j + 1 = k) → wX12_isBesideMarked_B48 Q (k : Int) ((k : Int) % 8) M := fun h => by
    simp only [wX12_isBesideMarked_B48, wX12_isBesideMarked_B82, wX12_isBesideMarked_B87, tz_g1]
    rw [tz_n (x := (k : Int) % 8) (by omega) (by omega), tz_n (x := (k : Int) - 1) (by omega) (by omega)]
    refine ⟨fun c1 => b64 (fun j h1 h2 h3 => ?_), fun c1 => ⟨⟨by omega, by omega⟩, fun c2 => hy ?_, fun c2 => b64 (fun j h1 h2 h3 => ?_)⟩⟩
    · rcases h j h1 h2 h3 with h4 | h4
      · exact h4
      · subst h4
        unfold tz_adj at h2
        simp at h2
        omega
    · rw [wf _ (by omega) (by omega)] at c2
      refine yes _ (by omega) (by omega) ?_ c2
      unfold tz_adj
      simp
      omega
    · rcases h j h1 h2 h3 with h4 | h4
      · exact h4
      · rw [wf _ (by omega) (by omega)] at c2
        rw [show (k : Int) - 1 = (j : Int) by omega] at c2
        exact absurd h3 c2
  have any : ∀ j : Nat, j < 64 → tz_adj j k = true → k = j + 8 ∨ j = k + 8 ∨ j = k + 1 ∨ j + 1 = k := fun j h1 h2 => by
    unfold tz_adj at h2
    simp at h2
    omega
  have b27 : (∀ j : Nat, j < 64 → tz_adj j k = true → M.1 169 (j : Int) = 1 → k ≠ j + 8) → wX12_isBesideMarked_B27 Q (k : Int) ((k : Int) / 8) ((k : Int) % 8) M := fun h => by
    simp only [wX12_isBesideMarked_B27, wX12_isBesideMarked_B46]
    rw [tz_n (x := (k : Int) / 8) (by omega) (by omega), tz_n (x := (k : Int) + 8) (by omega) (by omega)]
    refine ⟨fun c1 => b48 (fun j h1 h2 h3 => ?_), fun c1 => ⟨⟨by omega, by omega⟩, fun c2 => b48 (fun j h1 h2 h3 => ?_), fun c2 => hy ?_⟩⟩
    · have h4 := any j h1 h2
      have h5 := h j h1 h2 h3
      omega
    · have h4 := any j h1 h2
      have h5 := h j h1 h2 h3
      rw [wf _ (by omega) (by omega)] at c2
      by_cases h6 : j = k + 8
      · subst h6; exact absurd h3 c2
      · omega
    · rw [wf _ (by omega) (by omega)] at c2
      refine yes _ (by omega) (by omega) ?_ c2
      unfold tz_adj
      simp
      omega
  simp only [wX12_isBesideMarked, wX12_isBesideMarked_B46, forall_eq]
  rw [tz_div (x := (k : Int)) (by omega) (by omega) (by omega) (by omega), tz_rem (x := (k : Int)) (by omega) (by omega) (by omega) (by omega), tz_n (x := (k : Int) / 8) (by omega) (by omega), tz_n (x := (k : Int) - 8) (by omega) (by omega)]
  refine ⟨fun c1 => b27 (fun j h1 h2 h3 => by omega), fun c1 => ⟨⟨by omega, by omega⟩, fun c2 => hy ?_, fun c2 => b27 (fun j h1 h2 h3 h4 => ?_)⟩⟩
  · rw [wf _ (by omega) (by omega)] at c2
    refine yes _ (by omega) (by omega) ?_ c2
    unfold tz_adj
    simp
    omega
  · rw [wf _ (by omega) (by omega), show (k : Int) - 8 = (j : Int) by omega] at c2
    exact c2 h3
end TZU
