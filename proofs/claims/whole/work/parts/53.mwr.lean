/-! ===== the reference's writers: what they make of the row ===== -/
def tz_sr (M : ts_M) (r : Int → Int) : ts_M := (fun a j => if a = 165 then r j else M.1 a j, M.2)
theorem tz_sr_get {M : ts_M} {r : Int → Int} : (tz_sr M r).1 165 = r := by funext j; simp [tz_sr]
theorem tz_sr_ne {M : ts_M} {r : Int → Int} {a : Nat} (h1 : a ≠ 165) : (tz_sr M r).1 a = M.1 a := by funext j; simp [tz_sr, h1]
theorem tz_sr_2 {M : ts_M} {r : Int → Int} : (tz_sr M r).2 = M.2 := rfl
theorem tz_sr_sr {M : ts_M} {r r2 : Int → Int} : tz_sr (tz_sr M r) r2 = tz_sr M r2 := by
  unfold tz_sr; congr 1; funext a j; by_cases h1 : a = 165 <;> simp [h1]
theorem tz_sr_id {M : ts_M} : tz_sr M (M.1 165) = M := by
  obtain ⟨f, g⟩ := M
  unfold tz_sr; congr 1; funext a j; by_cases h1 : a = 165 <;> simp [h1]
theorem tz_si_sr {M : ts_M} {k v : Int} : ts_si M 165 k v = tz_sr M (ts_fu (M.1 165) k v) := by
  unfold ts_si tz_sr ts_fu; congr 1; funext a j; by_cases h1 : a = 165 <;> simp [h1]
theorem tz_si_srr {M : ts_M} {r : Int → Int} {k v : Int} : ts_si (tz_sr M r) 165 k v = tz_sr M (ts_fu r k v) := by
  rw [tz_si_sr, tz_sr_get, tz_sr_sr]
def to_spoon (w : Int → Int) (p1 p2 : Int) : Int → Int := ts_fu (ts_fu (ts_fu (ts_fu w 0 (w 0 + 1)) (11 + 4 * w 0 + 0) p1) (11 + 4 * w 0 + 1) p2) (11 + 4 * w 0 + 2) 5
def to_lists (w : Int → Int) (v p : Int) : Int → Int := ts_fu (ts_fu (ts_fu w (43 + 2 * w 1) v) (43 + 2 * w 1 + 1) p) 1 (w 1 + 1)
def to_prop (w : Int → Int) (p : Int) : Int → Int := to_lists (ts_fu w 2 (w 2 + 1)) (w 2) p
def to_make (w : Int → Int) (k : Int) : Int → Int := ts_fu (ts_fu w (55 + w 3) k) 3 (w 3 + 1)
def to_off (w : Int → Int) (q : Int) : Int → Int := fun k => if k = 1 then w 1 - 1 else if 43 + 2 * q ≤ k ∧ k < 43 + 2 * (w 1 - 1) then w (k + 2) else if k = 43 + 2 * (w 1 - 1) ∨ k = 43 + 2 * (w 1 - 1) + 1 then 0 else w k
def to_emp (w : Int → Int) : Int → Int := fun k => if (55 ≤ k ∧ k < 62) ∨ k = 3 ∨ k = 4 ∨ (14 ≤ k ∧ k < 14 + 4 * w 0 ∧ (k - 14) % 4 = 0) then 0 else w k
def to_adj (w : Int → Int) : Int → Int := to_emp (ts_fu w 5 (w 5 + 1))
def to_speak (w : Int → Int) (s : Int) : Int → Int := ts_fu (ts_fu (ts_fu w (11 + 4 * s + 2) (tz_a w s 2 - 1)) (11 + 4 * s + 3) (tz_a w s 3 + 1)) 10 (w 10 + 1)
def to_sugar (w : Int → Int) (s n : Int) : Int → Int := ts_fu (ts_fu w (11 + 4 * s + 2) (tz_a w s 2 + n)) 9 (w 9 + n)
section TZN
variable {p p1 p2 p3 lo up B : Int} {Q : Int → ts_M → Prop} {Qv : ts_M → Prop} {M : ts_M}
theorem tm_puts {k v : Int} (h1 : 0 ≤ p) (h2 : p < 8) (h3 : 0 ≤ k) (h4 : k ≤ 3) : wX12_puts p k v Qv M ↔ Qv (tz_sr M (ts_fu (M.1 165) (11 + 4 * p + k) v)) := by
  unfold wX12_puts
  rw [tz_n (x := 11 + 4 * p + k) (by omega) (by omega)]
  simp only [forall_eq, tz_si_sr]
  exact ⟨fun h => h.2, fun h => ⟨⟨by omega, by omega⟩, h⟩⟩
theorem tm_addsSpoon (h1 : 0 ≤ M.1 165 0) (h2 : M.1 165 0 < 8) : wX12_addsSpoon p1 p2 Q M ↔ Q (M.1 165 0) (tz_sr M (to_spoon (M.1 165) p1 p2)) := by
  simp only [wX12_addsSpoon, forall_eq, tz_si_sr, tm_puts h1 h2 (Int.le_refl 0) (by omega : (0 : Int) ≤ 3), tm_puts h1 h2 (by omega : (0 : Int) ≤ 1) (by omega : (1 : Int) ≤ 3), tm_puts h1 h2 (by omega : (0 : Int) ≤ 2) (by omega : (2 : Int) ≤ 3), tz_sr_sr, tz_sr_get]
  exact Iff.rfl
theorem tm_lists {v : Int} (h1 : 0 ≤ M.1 165 1) (h2 : M.1 165 1 < 6) : wX12_lists v p Q M ↔ Q v (tz_sr M (to_lists (M.1 165) v p)) := by
  have e1 : ts_fu (M.1 165) (43 + 2 * M.1 165 1) v 1 = M.1 165 1 := by unfold ts_fu; rw [if_neg (by omega)]
  have e2 : ts_fu (ts_fu (M.1 165) (43 + 2 * M.1 165 1) v) (43 + 2 * M.1 165 1 + 1) p 1 = M.1 165 1 := by unfold ts_fu; rw [if_neg (by omega), if_neg (by omega)]
  simp only [wX12_lists, forall_eq]
  rw [tz_n (x := 43 + 2 * M.1 165 1) (by omega) (by omega)]
  simp only [tz_si_sr, tz_sr_sr, tz_sr_get, e1]
  rw [tz_n (x := 43 + 2 * M.1 165 1 + 1) (by omega) (by omega)]
  simp only [e2]
  exact ⟨fun h => h.2.2, fun h => ⟨⟨by omega, by omega⟩, ⟨by omega, by omega⟩, h⟩⟩
theorem tm_proposes (h1 : 0 ≤ M.1 165 1) (h2 : M.1 165 1 < 6) : wX12_proposes p Q M ↔ Q (M.1 165 2) (tz_sr M (to_prop (M.1 165) p)) := by
  have e1 : ts_fu (M.1 165) 2 (M.1 165 2 + 1) 1 = M.1 165 1 := by unfold ts_fu; rw [if_neg (by omega)]
  have e2 : ts_fu (M.1 165) 2 (M.1 165 2 + 1) 2 = M.1 165 2 + 1 := by unfold ts_fu; rw [if_pos rfl]
  simp only [wX12_proposes, forall_eq, tz_si_sr]
  rw [tm_lists (by rw [tz_sr_get, e1]; exact h1) (by rw [tz_sr_get, e1]; exact h2), tz_sr_get, tz_sr_sr, e2, Int.add_sub_cancel]
  exact Iff.rfl
theorem tm_makes (h1 : 0 ≤ M.1 165 3) (h2 : M.1 165 3 < 5) : wX12_makes p Q M ↔ Q (M.1 165 3 + 1) (tz_sr M (to_make (M.1 165) p)) := by
  have e1 : ts_fu (M.1 165) (55 + M.1 165 3) p 3 = M.1 165 3 := by unfold ts_fu; rw [if_neg (by omega)]
  have e2 : ts_fu (ts_fu (M.1 165) (55 + M.1 165 3) p) 3 (M.1 165 3 + 1) 3 = M.1 165 3 + 1 := by unfold ts_fu; rw [if_pos rfl]
  simp only [wX12_makes, forall_eq]
  rw [tz_n (x := 55 + M.1 165 3) (by omega) (by omega)]
  simp only [tz_si_sr, tz_sr_sr, tz_sr_get, e1, e2]
  exact ⟨fun h => h.2, fun h => ⟨⟨by omega, by omega⟩, h⟩⟩
theorem tm_makesMain (h1 : 0 ≤ M.1 165 3) (h2 : M.1 165 3 < 5) : wX12_makesMain p Q M ↔ Q (M.1 165 3 + 1) (tz_sr M (to_make (ts_fu (M.1 165) 60 p) 0)) := by
  have e1 : ts_fu (M.1 165) 60 p 3 = M.1 165 3 := by unfold ts_fu; rw [if_neg (by omega)]
  simp only [wX12_makesMain, forall_eq, tz_si_sr]
  rw [tm_makes (by rw [tz_sr_get, e1]; exact h1) (by rw [tz_sr_get, e1]; exact h2), tz_sr_get, tz_sr_sr, e1]
theorem tm_makesAmendment (h1 : 0 ≤ M.1 165 3) (h2 : M.1 165 3 < 5) : wX12_makesAmendment p Q M ↔ Q (M.1 165 3 + 1) (tz_sr M (to_make (ts_fu (M.1 165) 61 p) 1)) := by
  have e1 : ts_fu (M.1 165) 61 p 3 = M.1 165 3 := by unfold ts_fu; rw [if_neg (by omega)]
  simp only [wX12_makesAmendment, forall_eq, tz_si_sr]
  rw [tm_makes (by rw [tz_sr_get, e1]; exact h1) (by rw [tz_sr_get, e1]; exact h2), tz_sr_get, tz_sr_sr, e1]
theorem tm_speaks (h1 : 0 ≤ p) (h2 : p < 8) : wX12_speaks p Q M ↔ Q (tz_a (M.1 165) p 3 + 1) (tz_sr M (to_speak (M.1 165) p)) := by
  have e1 : ∀ v : Int, tz_a (ts_fu (M.1 165) (11 + 4 * p + 2) v) p 3 = tz_a (M.1 165) p 3 := fun v => by unfold tz_a ts_fu; rw [if_neg (by omega)]
  have e2 : ∀ (r : Int → Int) (v : Int), ts_fu r (11 + 4 * p + 2) v 10 = r 10 := fun r v => by unfold ts_fu; rw [if_neg (by omega)]
  have e3 : ∀ (r : Int → Int) (v : Int), ts_fu r (11 + 4 * p + 3) v 10 = r 10 := fun r v => by unfold ts_fu; rw [if_neg (by omega)]
  have e4 : ∀ (r : Int → Int) (v x : Int), tz_a (ts_fu (ts_fu r (11 + 4 * p + 3) v) 10 x) p 3 = v := fun r v x => by unfold tz_a ts_fu; rw [if_neg (by omega), if_pos rfl]
  simp only [wX12_speaks, forall_eq, tm_spoon h1 h2 (by omega : (0 : Int) ≤ 2) (by omega : (2 : Int) ≤ 3), tm_spoon h1 h2 (by omega : (0 : Int) ≤ 3) (Int.le_refl 3), tm_puts h1 h2 (by omega : (0 : Int) ≤ 2) (by omega : (2 : Int) ≤ 3), tm_puts h1 h2 (by omega : (0 : Int) ≤ 3) (Int.le_refl 3), tz_si_sr, tz_sr_sr, tz_sr_get, e1, e2, e3, e4]
  exact Iff.rfl
theorem tm_gives (h1 : 0 ≤ p1) (h2 : p1 < 8) : wX12_gives p1 p2 Q M ↔ Q (tz_a (M.1 165) p1 2 + p2) (tz_sr M (to_sugar (M.1 165) p1 p2)) := by
  have e2 : ∀ (r : Int → Int) (v : Int), ts_fu r (11 + 4 * p1 + 2) v 9 = r 9 := fun r v => by unfold ts_fu; rw [if_neg (by omega)]
  have e4 : ∀ (r : Int → Int) (v x : Int), tz_a (ts_fu (ts_fu r (11 + 4 * p1 + 2) v) 9 x) p1 2 = v := fun r v x => by unfold tz_a ts_fu; rw [if_neg (by omega), if_pos rfl]
  simp only [wX12_gives, forall_eq, tm_spoon h1 h2 (by omega : (0 : Int) ≤ 2) (by omega : (2 : Int) ≤ 3), tm_puts h1 h2 (by omega : (0 : Int) ≤ 2) (by omega : (2 : Int) ≤ 3), tz_si_sr, tz_sr_sr, tz_sr_get, e2, e4]
  exact Iff.rfl
theorem tm_takesOff (h1 : 0 ≤ p) (h2 : p < M.1 165 1) (h3 : M.1 165 1 ≤ 6) : wX12_takesOff p Qv M ↔ Qv (tz_sr M (to_off (M.1 165) p)) := by
  have e1 : ts_fu (M.1 165) 1 (M.1 165 1 - 1) 1 = M.1 165 1 - 1 := by unfold ts_fu; rw [if_pos rfl]
  simp only [wX12_takesOff, forall_eq, tz_si_sr, tz_sr_get, e1]
  refine tz_it2 (fun d x1 x2 M' => x1 = 43 + 2 * (M.1 165 1 - 1) ∧ 43 + 2 * p ≤ x2 ∧ x2 ≤ x1 ∧ d = (x1 - x2).toNat ∧ M' = tz_sr M (fun k => if k = 1 then M.1 165 1 - 1 else if 43 + 2 * p ≤ k ∧ k < x2 then M.1 165 (k + 2) else M.1 165 k)) ?_ (43 + 2 * (M.1 165 1 - 1) - (43 + 2 * p)).toNat ⟨rfl, by omega, by omega, rfl, ?_⟩
  · rintro d x1 x2 M' ⟨rfl, h4, h5, h6, rfl⟩
    simp only [wX12_takesOff_L29, forall_eq]
    rw [tz_n (x := x2) (by omega) (by omega), tz_n (x := 43 + 2 * (M.1 165 1 - 1)) (by omega) (by omega), tz_n (x := x2 + 2) (by omega) (by omega), tz_n (x := 43 + 2 * (M.1 165 1 - 1) + 1) (by omega) (by omega)]
    by_cases c1 : 43 + 2 * (M.1 165 1 - 1) ≤ x2
    · left
      intro k
      have e2 : tz_sr M (to_off (M.1 165) p) = ts_si (ts_si (tz_sr M (fun k => if k = 1 then M.1 165 1 - 1 else if 43 + 2 * p ≤ k ∧ k < x2 then M.1 165 (k + 2) else M.1 165 k)) 165 (43 + 2 * (M.1 165 1 - 1)) 0) 165 (43 + 2 * (M.1 165 1 - 1) + 1) 0 := by
        rw [tz_si_srr, tz_si_srr]
        congr 1
        funext j
        unfold to_off ts_fu
        try dsimp only
        have : x2 = 43 + 2 * (M.1 165 1 - 1) := by omega
        subst this
        by_cases b1 : j = 1
        · subst b1; rw [if_pos rfl, if_neg (by omega), if_neg (by omega), if_pos rfl]
        · by_cases b2 : 43 + 2 * p ≤ j ∧ j < 43 + 2 * (M.1 165 1 - 1)
          · rw [if_neg b1, if_pos b2, if_neg (by omega), if_neg (by omega), if_neg b1, if_pos b2]
          · rw [if_neg b1, if_neg b2]
            by_cases b3 : j = 43 + 2 * (M.1 165 1 - 1) + 1
            · rw [if_pos (Or.inr b3), if_pos b3]
            · by_cases b4 : j = 43 + 2 * (M.1 165 1 - 1)
              · rw [if_pos (Or.inl b4), if_neg b3, if_pos b4]
              · rw [if_neg (by omega), if_neg b3, if_neg b4, if_neg b1, if_neg b2]
      rw [e2]
      exact ⟨fun h => (h.1 c1).2.2, fun h => ⟨fun _ => ⟨⟨by omega, by omega⟩, ⟨by omega, by omega⟩, h⟩, fun h7 => absurd c1 h7⟩⟩
    · right
      refine ⟨(43 + 2 * (M.1 165 1 - 1) - (x2 + 1)).toNat, 43 + 2 * (M.1 165 1 - 1), x2 + 1, _, by omega, ⟨rfl, by omega, by omega, rfl, rfl⟩, ?_⟩
      intro k
      have e2 : tz_sr M (fun k => if k = 1 then M.1 165 1 - 1 else if 43 + 2 * p ≤ k ∧ k < x2 + 1 then M.1 165 (k + 2) else M.1 165 k) = ts_si (tz_sr M (fun k => if k = 1 then M.1 165 1 - 1 else if 43 + 2 * p ≤ k ∧ k < x2 then M.1 165 (k + 2) else M.1 165 k)) 165 x2 ((tz_sr M (fun k => if k = 1 then M.1 165 1 - 1 else if 43 + 2 * p ≤ k ∧ k < x2 then M.1 165 (k + 2) else M.1 165 k)).1 165 (x2 + 2)) := by
        rw [tz_si_srr, tz_sr_get]
        congr 1
        funext j
        unfold ts_fu
        try dsimp only
        by_cases b1 : j = x2
        · subst b1
          rw [if_neg (by omega), if_pos (by omega), if_pos rfl, if_neg (by omega), if_neg (by omega)]
        · rw [if_neg b1]
          by_cases b2 : j = 1
          · rw [if_pos b2, if_pos b2]
          · rw [if_neg b2, if_neg b2]
            by_cases b3 : 43 + 2 * p ≤ j ∧ j < x2
            · rw [if_pos b3, if_pos (by omega)]
            · rw [if_neg b3, if_neg (by omega)]
      rw [e2]
      exact ⟨fun h => (h.2 c1).2.2, fun h => ⟨fun h7 => absurd h7 c1, fun _ => ⟨⟨by omega, by omega⟩, ⟨by omega, by omega⟩, h⟩⟩⟩
  · congr 1
    funext j
    unfold ts_fu
    try dsimp only
    by_cases b1 : j = 1
    · rw [if_pos b1, if_pos b1]
    · rw [if_neg b1, if_neg b1, if_neg (by omega)]
theorem tm_empties (h1 : 0 ≤ M.1 165 0) (h2 : M.1 165 0 ≤ 8) : wX12_empties Qv M ↔ Qv (tz_sr M (to_emp (M.1 165))) := by
  simp only [wX12_empties, forall_eq]
  refine tz_it1 (fun d x1 M' => 0 ≤ x1 ∧ x1 ≤ 5 ∧ d = (5 - x1).toNat ∧ M' = tz_sr M (fun k => if 55 ≤ k ∧ k < 55 + x1 then 0 else M.1 165 k)) ?_ 5 ⟨by omega, by omega, rfl, ?_⟩
  · rintro d x1 M' ⟨h3, h4, h5, rfl⟩
    simp only [wX12_empties_L2, forall_eq]
    rw [tz_n (x := x1) (by omega) (by omega), tz_n (x := 55 + x1) (by omega) (by omega)]
    by_cases c1 : 5 ≤ x1
    · left
      intro k
      have c2 : x1 = 5 := by omega
      subst c2
      have e1 : ts_si (ts_si (ts_si (ts_si (tz_sr M (fun k => if 55 ≤ k ∧ k < 55 + 5 then 0 else M.1 165 k)) 165 3 0) 165 60 0) 165 61 0) 165 4 0 = tz_sr M (fun k => if (55 ≤ k ∧ k < 62) ∨ k = 3 ∨ k = 4 then 0 else M.1 165 k) := by
        rw [tz_si_srr, tz_si_srr, tz_si_srr, tz_si_srr]
        congr 1
        funext j
        unfold ts_fu
        try dsimp only
        by_cases b1 : (55 ≤ j ∧ j < 62) ∨ j = 3 ∨ j = 4
        · rw [if_pos b1]
          by_cases b2 : j = 4
          · rw [if_pos b2]
          · rw [if_neg b2]
            by_cases b3 : j = 61
            · rw [if_pos b3]
            · rw [if_neg b3]
              by_cases b4 : j = 60
              · rw [if_pos b4]
              · rw [if_neg b4]
                by_cases b5 : j = 3
                · rw [if_pos b5]
                · rw [if_neg b5, if_pos (by omega)]
        · rw [if_neg b1, if_neg (by omega), if_neg (by omega), if_neg (by omega), if_neg (by omega), if_neg (by omega)]
      rw [e1]
      have e2 : (∃ n, ts_lp1 (wX12_empties_L55 Qv) n 0 (tz_sr M (fun k => if (55 ≤ k ∧ k < 62) ∨ k = 3 ∨ k = 4 then 0 else M.1 165 k))) ↔ Qv (tz_sr M (to_emp (M.1 165))) := by
        refine tz_it1 (fun d x1 M' => 0 ≤ x1 ∧ x1 ≤ M.1 165 0 ∧ d = (M.1 165 0 - x1).toNat ∧ M' = tz_sr M (fun k => if (55 ≤ k ∧ k < 62) ∨ k = 3 ∨ k = 4 ∨ (14 ≤ k ∧ k < 14 + 4 * x1 ∧ (k - 14) % 4 = 0) then 0 else M.1 165 k)) ?_ (M.1 165 0).toNat ⟨by omega, by omega, by omega, ?_⟩
        · rintro d x1 M' ⟨g1, g2, g3, rfl⟩
          simp only [wX12_empties_L55, forall_eq]
          have e3 : (tz_sr M (fun k => if (55 ≤ k ∧ k < 62) ∨ k = 3 ∨ k = 4 ∨ (14 ≤ k ∧ k < 14 + 4 * x1 ∧ (k - 14) % 4 = 0) then 0 else M.1 165 k)).1 165 0 = M.1 165 0 := by
            rw [tz_sr_get]; exact if_neg (by omega)
          rw [e3, tz_n (x := M.1 165 0) (by omega) (by omega), tz_n (x := x1) (by omega) (by omega)]
          by_cases b1 : M.1 165 0 ≤ x1
          · left
            intro k
            have b2 : x1 = M.1 165 0 := by omega
            subst b2
            exact ⟨fun h => h.1 b1, fun h => ⟨fun _ => h, fun h6 => absurd b1 h6⟩⟩
          · right
            refine ⟨(M.1 165 0 - (x1 + 1)).toNat, x1 + 1, _, by omega, ⟨by omega, by omega, rfl, rfl⟩, ?_⟩
            intro k
            rw [tm_puts g1 (by omega) (by omega : (0 : Int) ≤ 3) (Int.le_refl 3), tz_sr_sr, tz_sr_get]
            have e4 : ts_fu (fun k => if (55 ≤ k ∧ k < 62) ∨ k = 3 ∨ k = 4 ∨ (14 ≤ k ∧ k < 14 + 4 * x1 ∧ (k - 14) % 4 = 0) then 0 else M.1 165 k) (11 + 4 * x1 + 3) 0 = (fun k => if (55 ≤ k ∧ k < 62) ∨ k = 3 ∨ k = 4 ∨ (14 ≤ k ∧ k < 14 + 4 * (x1 + 1) ∧ (k - 14) % 4 = 0) then 0 else M.1 165 k) := by
              funext j
              unfold ts_fu
              try dsimp only
              by_cases b3 : j = 11 + 4 * x1 + 3
              · rw [if_pos b3, if_pos (by omega)]
              · rw [if_neg b3]
                by_cases b4 : (55 ≤ j ∧ j < 62) ∨ j = 3 ∨ j = 4 ∨ (14 ≤ j ∧ j < 14 + 4 * x1 ∧ (j - 14) % 4 = 0)
                · rw [if_pos b4, if_pos (by omega)]
                · rw [if_neg b4, if_neg (by omega)]
            rw [e4]
            exact ⟨fun h => h.2 b1, fun h => ⟨fun h6 => absurd h6 b1, fun _ => h⟩⟩
        · congr 1
          funext j
          by_cases b3 : (55 ≤ j ∧ j < 62) ∨ j = 3 ∨ j = 4
          · rw [if_pos b3, if_pos (by omega)]
          · rw [if_neg b3, if_neg (by omega)]
      exact ⟨fun h => e2.mp (h.1 (Int.le_refl 5)), fun h => ⟨fun _ => e2.mpr h, fun h6 => absurd (Int.le_refl 5) h6⟩⟩
    · right
      refine ⟨(5 - (x1 + 1)).toNat, x1 + 1, _, by omega, ⟨by omega, by omega, rfl, rfl⟩, ?_⟩
      intro k
      have e2 : ts_si (tz_sr M (fun k => if 55 ≤ k ∧ k < 55 + x1 then 0 else M.1 165 k)) 165 (55 + x1) 0 = tz_sr M (fun k => if 55 ≤ k ∧ k < 55 + (x1 + 1) then 0 else M.1 165 k) := by
        rw [tz_si_srr]
        congr 1
        funext j
        unfold ts_fu
        try dsimp only
        by_cases b1 : j = 55 + x1
        · rw [if_pos b1, if_pos (by omega)]
        · rw [if_neg b1]
          by_cases b2 : 55 ≤ j ∧ j < 55 + x1
          · rw [if_pos b2, if_pos (by omega)]
          · rw [if_neg b2, if_neg (by omega)]
      rw [e2]
      exact ⟨fun h => (h.2 c1).2, fun h => ⟨fun h7 => absurd h7 c1, fun _ => ⟨⟨by omega, by omega⟩, h⟩⟩⟩
  · have e1 : (fun k => if 55 ≤ k ∧ k < 55 + (0 : Int) then 0 else M.1 165 k) = M.1 165 := by
      funext j; try dsimp only
      rw [if_neg (by omega)]
    rw [e1, tz_sr_id]
theorem tm_adjourns (h1 : 0 ≤ M.1 165 0) (h2 : M.1 165 0 ≤ 8) : wX12_adjourns Qv M ↔ Qv (tz_sr M (to_adj (M.1 165))) := by
  have e1 : ts_fu (M.1 165) 5 (M.1 165 5 + 1) 0 = M.1 165 0 := by unfold ts_fu; rw [if_neg (by omega)]
  simp only [wX12_adjourns, forall_eq, tz_si_sr]
  rw [tm_empties (by rw [tz_sr_get, e1]; exact h1) (by rw [tz_sr_get, e1]; exact h2), tz_sr_get, tz_sr_sr]
  exact Iff.rfl
end TZN
