/-! ===== what holds between the calls ===== -/
def tz_OUT (M : ts_M) : Prop := (M.1 177 2 = 16 ∨ M.1 177 2 = 34 ∨ M.1 177 2 = 70) ∧ 0 ≤ M.1 177 3 ∧ M.1 177 4 = -1 ∧ (0 ≤ M.1 177 0 ∧ M.1 177 0 ≤ M.1 177 2) ∧ M.1 164 12 = M.1 177 0 ∧ ∀ j : Int, 0 ≤ j → j < M.1 177 0 → M.1 172 j = M.1 178 j ∧ 32 ≤ M.1 178 j ∧ M.1 178 j ≤ 126
def tz_TXT (M : ts_M) : Prop := (0 ≤ M.1 160 3 ∧ M.1 160 3 ≤ 60) ∧ M.1 164 14 = M.1 160 3 ∧ ∀ j : Int, 0 ≤ j → j < M.1 160 3 → M.1 173 j = M.1 161 j ∧ 32 ≤ M.1 161 j ∧ M.1 161 j ≤ 126
def tz_ERR (M : ts_M) : Prop := M.1 164 16 = M.1 154 8 ∧ (-1 ≤ M.1 154 8 ∧ M.1 154 8 ≤ 60) ∧ M.1 164 17 = M.1 154 9 ∧ (-1 ≤ M.1 154 9 ∧ M.1 154 9 ≤ 12)
def tz_SAV (B : Int) (M : ts_M) : Prop := (M.1 154 7 = 0 ∨ M.1 154 7 = 1) ∧ M.1 164 7 = M.1 154 7 ∧ (M.1 154 7 = 1 → tz_W B (M.1 167) ∧ tz_S 28 M (M.1 167))
def tz_RS (B : Int) (M : ts_M) : Prop := tz_SAV B M ∧ tz_ERR M ∧ tz_TXT M ∧ tz_OUT M
def tz_HH (B : Int) (M : ts_M) : Prop := ∃ (n : Int) (h : Nat → Int → Int), tz_H B M n h ∧ tz_HM M n h
def tz_MN (B : Int) (M : ts_M) : Prop := tz_W B (M.1 165) ∧ tz_S 0 M (M.1 165)
def tz_J (B : Int) (M : ts_M) : Prop := tz_MN B M ∧ tz_HH B M ∧ tz_RS B M
/-- the slots that the rest speaks of; those of the history; those of the State and the row -/
def tz_kr (a : Nat) (j : Int) : Prop := (28 ≤ a ∧ a < 42) ∨ (a = 154 ∧ 7 ≤ j ∧ j ≤ 9) ∨ (a = 160 ∧ j = 3) ∨ a = 161 ∨ (a = 164 ∧ (j = 7 ∨ j = 12 ∨ j = 14 ∨ j = 16 ∨ j = 17)) ∨ a = 167 ∨ a = 172 ∨ a = 173 ∨ a = 177 ∨ a = 178
def tz_kh (a : Nat) (j : Int) : Prop := (42 ≤ a ∧ a < 154) ∨ (a = 158 ∧ 1 ≤ j ∧ j ≤ 2) ∨ (a = 164 ∧ 5 ≤ j ∧ j ≤ 6) ∨ a = 166
def tz_km (a : Nat) (_ : Int) : Prop := a ≤ 10 ∨ a = 13 ∨ a = 165
def tz_QR (M M' : ts_M) : Prop := (∀ (a : Nat) (j : Int), tz_kr a j → M'.1 a j = M.1 a j) ∧ ∀ a : Nat, 28 ≤ a → a < 42 → M'.2.1 a = M.2.1 a
def tz_QH (M M' : ts_M) : Prop := (∀ (a : Nat) (j : Int), tz_kh a j → M'.1 a j = M.1 a j) ∧ ∀ a : Nat, 42 ≤ a → a < 154 → M'.2.1 a = M.2.1 a
def tz_QM (M M' : ts_M) : Prop := (∀ (a : Nat) (j : Int), tz_km a j → M'.1 a j = M.1 a j) ∧ M'.2.1 11 0 = M.2.1 11 0
def tz_Q (M M' : ts_M) : Prop := tz_QR M M' ∧ tz_QH M M' ∧ tz_QM M M'
section TZP
variable {B B' n : Int} {Q : Int → ts_M → Prop} {Qv : ts_M → Prop} {M M' M'' : ts_M} {b : Nat} {w : Int → Int} {h : Nat → Int → Int} {S : Nat → Prop}
theorem tz_Q_rfl : tz_Q M M := ⟨⟨fun _ _ _ => rfl, fun _ _ _ => rfl⟩, ⟨fun _ _ _ => rfl, fun _ _ _ => rfl⟩, fun _ _ _ => rfl, rfl⟩
theorem tz_Q_tr (h1 : tz_Q M M') (h2 : tz_Q M' M'') : tz_Q M M'' := ⟨⟨fun a j h => (h2.1.1 a j h).trans (h1.1.1 a j h), fun a h3 h4 => (h2.1.2 a h3 h4).trans (h1.1.2 a h3 h4)⟩, ⟨fun a j h => (h2.2.1.1 a j h).trans (h1.2.1.1 a j h), fun a h3 h4 => (h2.2.1.2 a h3 h4).trans (h1.2.1.2 a h3 h4)⟩, fun a j h => (h2.2.2.1 a j h).trans (h1.2.2.1 a j h), h2.2.2.2.trans h1.2.2.2⟩
theorem tz_QR_fr (hF : tz_fr S M M') (h1 : ∀ a : Nat, S a → ¬ (28 ≤ a ∧ a < 42) ∧ a ≠ 154 ∧ a ≠ 160 ∧ a ≠ 161 ∧ a ≠ 164 ∧ a ≠ 167 ∧ a ≠ 172 ∧ a ≠ 173 ∧ a ≠ 177 ∧ a ≠ 178) : tz_QR M M' := by
  refine ⟨fun a j hk => ?_, fun a h2 h3 => (hF.1 a (fun h => (h1 a h).1 ⟨h2, h3⟩)).2⟩
  rw [(hF.1 a (fun h => ?_)).1]
  have h2 := h1 a h
  unfold tz_kr at hk
  omega
theorem tz_QH_fr (hF : tz_fr S M M') (h1 : ∀ a : Nat, S a → ¬ (42 ≤ a ∧ a < 154) ∧ a ≠ 158 ∧ a ≠ 164 ∧ a ≠ 166) : tz_QH M M' := by
  refine ⟨fun a j hk => ?_, fun a h2 h3 => (hF.1 a (fun h => (h1 a h).1 ⟨h2, h3⟩)).2⟩
  rw [(hF.1 a (fun h => ?_)).1]
  have h2 := h1 a h
  unfold tz_kh at hk
  omega
theorem tz_QM_fr (hF : tz_fr S M M') (h1 : ∀ a : Nat, S a → 11 < a ∧ a ≠ 13 ∧ a ≠ 165) : tz_QM M M' := by
  refine ⟨fun a j hk => ?_, by rw [(hF.1 11 (fun h => by have := h1 11 h; omega)).2]⟩
  rw [(hF.1 a (fun h => ?_)).1]
  have h2 := h1 a h
  unfold tz_km at hk
  omega
theorem tz_Q_fr (hF : tz_fr S M M') (h1 : ∀ a : Nat, S a → (14 ≤ a ∧ a < 28) ∨ (155 ≤ a ∧ a < 158) ∨ a = 12 ∨ a = 162 ∨ a = 163 ∨ (168 ≤ a ∧ a < 172) ∨ (174 ≤ a ∧ a < 177)) : tz_Q M M' := ⟨tz_QR_fr hF (fun a h => by have := h1 a h; omega), tz_QH_fr hF (fun a h => by have := h1 a h; omega), tz_QM_fr hF (fun a h => by have := h1 a h; omega)⟩
/-- a slot of the reference that nothing stands on -/
theorem tz_Q_si {j v : Int} (h : ¬ (5 ≤ j ∧ j ≤ 7) ∧ j ≠ 12 ∧ j ≠ 14 ∧ j ≠ 16 ∧ j ≠ 17) : tz_Q M (ts_si M 164 j v) := by
  have g : ∀ (a : Nat) (k : Int), ¬ (a = 164 ∧ k = j) → (ts_si M 164 j v).1 a k = M.1 a k := fun a k h => if_neg h
  exact ⟨⟨fun a k hk => g a k (by unfold tz_kr at hk; omega), fun _ _ _ => rfl⟩, ⟨fun a k hk => g a k (by unfold tz_kh at hk; omega), fun _ _ _ => rfl⟩, fun a k hk => g a k (by unfold tz_km at hk; omega), rfl⟩
/-- the outcome's cells -/
theorem tz_Q_sl {v : Int64} : tz_Q M (ts_sl M 175 0 v) := by
  have g : ∀ a : Nat, a ≠ 175 → (ts_sl M 175 0 v).2.1 a = M.2.1 a := fun a h => ts_sl_ne h
  exact ⟨⟨fun a k hk => rfl, fun a h1 h2 => g a (by omega)⟩, ⟨fun a k hk => rfl, fun a h1 h2 => g a (by omega)⟩, fun a k hk => rfl, by rw [g 11 (by omega)]⟩
theorem tz_S_k (hW : tz_W B w) (hS : tz_S b M w) (hc : ∀ c : Nat, c ≤ 10 ∨ c = 13 → M'.1 (b + c) = M.1 (b + c)) (hl : M'.2.1 (b + 11) 0 = M.2.1 (b + 11) 0) : tz_S b M' w := by
  obtain ⟨e0, e1, -, e3, -⟩ := hW
  exact tz_S_of (tz_P1_c (tz_S_1 hS) e0.2 (fun c _ h2 => hc c (by omega)) (fun j h => rfl)) (tz_P2_c (tz_S_2 hS) e1.2 (fun c _ h2 => hc c (by omega)) (fun j h => rfl)) (tz_P3_c (tz_S_3 hS) e3.2 (fun c _ h2 => hc c (by omega)) (fun j h => rfl)) (tz_P4_c (tz_S_4 hS) hl (fun j h h' => rfl)) (tz_P5_c (tz_S_5 hS) (hc 0 (by omega)) (hc 13 (by omega)) (fun j h => rfl))
theorem tz_RS_c (hR : tz_RS B M) (hB : B ≤ B') (hq : tz_QR M M') : tz_RS B' M' := by
  obtain ⟨⟨a1, a2, a3⟩, ⟨b1, b2, b3, b4⟩, ⟨c1, c2, c3⟩, d1, d2, d3, d4, d5, d6⟩ := hR
  have g := hq.1
  have r167 : M'.1 167 = M.1 167 := by funext j; exact g 167 j (by unfold tz_kr; omega)
  refine ⟨⟨?_, ?_, ?_⟩, ⟨?_, ?_, ?_, ?_⟩, ⟨?_, ?_, ?_⟩, ?_, ?_, ?_, ?_, ?_, ?_⟩
  · rw [g 154 7 (by unfold tz_kr; omega)]; exact a1
  · rw [g 154 7 (by unfold tz_kr; omega), g 164 7 (by unfold tz_kr; omega)]; exact a2
  · rw [g 154 7 (by unfold tz_kr; omega), r167]
    intro h
    have h2 := a3 h
    exact ⟨tz_W_mono h2.1 hB, tz_S_m h2.1 h2.2 (fun a h3 h4 => ⟨by funext j; exact g a j (by unfold tz_kr; omega), hq.2 a h3 (by omega)⟩)⟩
  · rw [g 154 8 (by unfold tz_kr; omega), g 164 16 (by unfold tz_kr; omega)]; exact b1
  · rw [g 154 8 (by unfold tz_kr; omega)]; exact b2
  · rw [g 154 9 (by unfold tz_kr; omega), g 164 17 (by unfold tz_kr; omega)]; exact b3
  · rw [g 154 9 (by unfold tz_kr; omega)]; exact b4
  · rw [g 160 3 (by unfold tz_kr; omega)]; exact c1
  · rw [g 160 3 (by unfold tz_kr; omega), g 164 14 (by unfold tz_kr; omega)]; exact c2
  · rw [g 160 3 (by unfold tz_kr; omega)]
    intro j h1 h2
    rw [g 161 j (by unfold tz_kr; omega), g 173 j (by unfold tz_kr; omega)]; exact c3 j h1 h2
  · rw [g 177 2 (by unfold tz_kr; omega)]; exact d1
  · rw [g 177 3 (by unfold tz_kr; omega)]; exact d2
  · rw [g 177 4 (by unfold tz_kr; omega)]; exact d3
  · rw [g 177 2 (by unfold tz_kr; omega), g 177 0 (by unfold tz_kr; omega)]; exact d4
  · rw [g 177 0 (by unfold tz_kr; omega), g 164 12 (by unfold tz_kr; omega)]; exact d5
  · rw [g 177 0 (by unfold tz_kr; omega)]
    intro j h1 h2
    rw [g 172 j (by unfold tz_kr; omega), g 178 j (by unfold tz_kr; omega)]; exact d6 j h1 h2
theorem tz_H_c (hH : tz_H B M n h) (hB : B ≤ B') (hq : tz_QH M M') : tz_H B' M' n h := by
  obtain ⟨a1, a2, a3, a4⟩ := hH
  have g := hq.1
  unfold tz_H
  rw [g 158 1 (by unfold tz_kh; omega), g 158 2 (by unfold tz_kh; omega)]
  refine ⟨a1, a2, a3, fun i hi => ?_⟩
  have h2 := a4 i hi
  exact ⟨tz_W_mono h2.1 hB, tz_S_m h2.1 h2.2 (fun a h3 h4 => ⟨by funext j; exact g a j (by unfold tz_kh; omega), hq.2 a (by omega) (by omega)⟩)⟩
theorem tz_HM_c (hH : tz_HM M n h) (hq : tz_QH M M') : tz_HM M' n h := by
  obtain ⟨a1, a2, a3, a4⟩ := hH
  have g := hq.1
  unfold tz_HM
  rw [g 164 5 (by unfold tz_kh; omega), g 164 6 (by unfold tz_kh; omega)]
  refine ⟨a1, a2, a3, fun i hi k h1 h2 => ?_⟩
  rw [g 166 _ (by unfold tz_kh; omega)]
  exact a4 i hi k h1 h2
theorem tz_HH_c (hH : tz_HH B M) (hB : B ≤ B') (hq : tz_QH M M') : tz_HH B' M' := by
  obtain ⟨n, h, h1, h2⟩ := hH
  exact ⟨n, h, tz_H_c h1 hB hq, tz_HM_c h2 hq⟩
theorem tz_MN_c (hM : tz_MN B M) (hB : B ≤ B') (hq : tz_QM M M') : tz_MN B' M' := by
  obtain ⟨h1, h2⟩ := hM
  have g := hq.1
  have r : M'.1 165 = M.1 165 := by funext j; exact g 165 j (by unfold tz_km; omega)
  unfold tz_MN
  rw [r]
  exact ⟨tz_W_mono h1 hB, tz_S_k h1 h2 (fun c h3 => by funext j; exact g (0 + c) j (by unfold tz_km; omega)) hq.2⟩
theorem tz_J_c (hJ : tz_J B M) (hB : B ≤ B') (hq : tz_Q M M') : tz_J B' M' := ⟨tz_MN_c hJ.1 hB hq.2.2, tz_HH_c hJ.2.1 hB hq.2.1, tz_RS_c hJ.2.2 hB hq.1⟩
theorem tz_J_q (hJ : tz_J B M) (hq : tz_Q M M') : tz_J B M' := tz_J_c hJ (Int.le_refl _) hq
end TZP
