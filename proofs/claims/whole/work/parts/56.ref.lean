/-! ===== refusals ===== -/
/-- a cell's bit -/
def tz_wc (w : Int → Int) (r c : Int) : Int := tz_we w (8 * r + c)
def tz_r0 (w : Int → Int) (p1 p2 : Int) : Int := if tz_in 1 p1 9 && tz_in 0 p2 99 then (if w 0 = 8 then 2 else 0) else 1
def tz_r1 (w : Int → Int) (p1 : Int) : Int := if tz_in 0 p1 99 then (if w 1 = 6 then 2 else 0) else 1
def tz_r2 (w : Int → Int) (p1 : Int) : Int := if tz_pl w p1 = -1 then 4 else if tz_adm w 0 then 0 else 5
def tz_r3 (w : Int → Int) (p1 : Int) : Int := if tz_in (-20) p1 20 then (if tz_adm w 1 then 0 else 5) else 1
def tz_rm (w : Int → Int) (k : Int) : Int := if tz_adm w k then 0 else 5
def tz_r7 (w : Int → Int) (p1 : Int) : Int := if tz_in 0 p1 (w 0 - 1) then (if w 3 = 0 ∨ w 4 = 1 ∨ tz_a w p1 3 = 2 then 2 else if tz_a w p1 2 = 0 then 5 else 0) else 3
def tz_r8 (w : Int → Int) : Int := if w 3 = 0 then 4 else 0
def tz_r9 (p1 p2 p3 : Int) : Int := if tz_in 0 p1 7 && tz_in 0 p2 7 then (if tz_in 1 p3 30 then 0 else 1) else 3
def tz_r10 (w : Int → Int) (p1 p2 : Int) : Int := if tz_in 0 p1 7 && tz_in 0 p2 7 then (if tz_wc w p1 p2 = 1 then 0 else 2) else 3
def tz_r11 (w : Int → Int) (p1 p2 : Int) : Int := if tz_in 0 p1 (w 0 - 1) then (if tz_in 1 p2 9 then 0 else 1) else 3
/-- the reference's numbers of the refusals: by the order of the method's own throws -/
def tz_q0 (r : Int) : Int := r
def tz_q2 (r : Int) : Int := if r = 4 then 1 else if r = 5 then 2 else 0
def tz_q3 (r : Int) : Int := if r = 1 then 1 else if r = 5 then 2 else 0
def tz_qm (r : Int) : Int := if r = 5 then 1 else 0
def tz_q7 (r : Int) : Int := if r = 3 then 1 else if r = 2 then 2 else if r = 5 then 3 else 0
def tz_q8 (r : Int) : Int := if r = 4 then 1 else 0
def tz_q9 (r : Int) : Int := if r = 3 then 1 else if r = 1 then 2 else 0
def tz_q10 (r : Int) : Int := if r = 3 then 1 else if r = 2 then 2 else 0
section TZR
variable {p p1 p2 p3 lo up B : Int} {Q : Int → ts_M → Prop} {Qv : ts_M → Prop} {M : ts_M} {b : Nat} {w : Int → Int}
theorem tz_r0_rng : 0 ≤ tz_r0 w p1 p2 ∧ tz_r0 w p1 p2 ≤ 5 := by unfold tz_r0; repeat' split <;> omega
theorem tz_r1_rng : 0 ≤ tz_r1 w p1 ∧ tz_r1 w p1 ≤ 5 := by unfold tz_r1; repeat' split <;> omega
theorem tz_r2_rng : 0 ≤ tz_r2 w p1 ∧ tz_r2 w p1 ≤ 5 := by unfold tz_r2; repeat' split <;> omega
theorem tz_r3_rng : 0 ≤ tz_r3 w p1 ∧ tz_r3 w p1 ≤ 5 := by unfold tz_r3; repeat' split <;> omega
theorem tz_rm_rng : 0 ≤ tz_rm w p1 ∧ tz_rm w p1 ≤ 5 := by unfold tz_rm; repeat' split <;> omega
theorem tz_r7_rng : 0 ≤ tz_r7 w p1 ∧ tz_r7 w p1 ≤ 5 := by unfold tz_r7; repeat' split <;> omega
theorem tz_r8_rng : 0 ≤ tz_r8 w ∧ tz_r8 w ≤ 5 := by unfold tz_r8; repeat' split <;> omega
theorem tz_r9_rng : 0 ≤ tz_r9 p1 p2 p3 ∧ tz_r9 p1 p2 p3 ≤ 5 := by unfold tz_r9; repeat' split <;> omega
theorem tz_r10_rng : 0 ≤ tz_r10 w p1 p2 ∧ tz_r10 w p1 p2 ≤ 5 := by unfold tz_r10; repeat' split <;> omega
theorem tz_r11_rng : 0 ≤ tz_r11 w p1 p2 ∧ tz_r11 w p1 p2 ≤ 5 := by unfold tz_r11; repeat' split <;> omega
theorem tm_not0 (hW : tz_W B (M.1 165)) (h1 : ts_w p1 = p1) (h2 : ts_w p2 = p2) : wX12_notSpoon p1 p2 Q M ↔ Q (tz_q0 (tz_r0 (M.1 165) p1 p2)) M := by
  have e0 := hW.1
  unfold wX12_notSpoon
  rw [tm_isBetween h1 rfl rfl]
  simp only [tm_isBetween h2 (lo := 0) (up := 99) rfl rfl, tz_iw, tz_iz, wX12_notSpoon_B20, wX12_notSpoon_B38]
  rw [tz_n (x := M.1 165 0) (by omega) (by omega)]
  unfold tz_q0 tz_r0
  cases c1 : tz_in 1 p1 9
  · simp
  · cases c2 : tz_in 0 p2 99
    · simp
    · by_cases c3 : M.1 165 0 = 8 <;> simp [c3]
theorem tm_not1 (hW : tz_W B (M.1 165)) (h1 : ts_w p1 = p1) : wX12_notPropose p1 Q M ↔ Q (tz_q0 (tz_r1 (M.1 165) p1)) M := by
  have e0 := hW.2.1
  unfold wX12_notPropose
  rw [tm_isBetween h1 rfl rfl]
  simp only [tz_iw, tz_iz, wX12_notPropose_B28]
  rw [tz_n (x := M.1 165 1) (by omega) (by omega)]
  unfold tz_q0 tz_r1
  cases c1 : tz_in 0 p1 99
  · simp
  · by_cases c3 : M.1 165 1 = 6 <;> simp [c3]
theorem tm_not2 (hW : tz_W B (M.1 165)) (hB : B ≤ 1000000000) (h1 : ts_w p1 = p1) : wX12_notMain p1 Q M ↔ Q (tz_q2 (tz_r2 (M.1 165) p1)) M := by
  have e0 := hW.2.1
  unfold wX12_notMain
  rw [tm_place (tz_L_of hB hW) h1, tm_canMake hW (Int.le_refl 0) (by omega)]
  simp only [tz_iw, tz_iz, wX12_notMain_B23]
  unfold tz_q2 tz_r2
  rcases tz_pl_rng (w := M.1 165) (v := p1) e0.2 with h5 | h5
  · rw [h5]; simp [tz_nm]
  · have h6 : ¬ (tz_pl (M.1 165) p1 = -1) := by omega
    rw [tz_n (x := tz_pl (M.1 165) p1) (by omega) (by omega), tz_y h5.1]
    simp only [if_neg h6]
    cases c1 : tz_adm (M.1 165) 0 <;> simp
theorem tm_not3 (hW : tz_W B (M.1 165)) (h1 : ts_w p1 = p1) : wX12_notAmend p1 Q M ↔ Q (tz_q3 (tz_r3 (M.1 165) p1)) M := by
  unfold wX12_notAmend
  rw [tm_isBetween h1 rfl rfl, tm_canMake hW (by omega) (by omega)]
  simp only [tz_iw, tz_iz, wX12_notAmend_B26]
  unfold tz_q3 tz_r3
  cases c1 : tz_in (-20) p1 20
  · simp
  · cases c2 : tz_adm (M.1 165) 1 <;> simp
theorem tm_notM {k : Int} (hW : tz_W B (M.1 165)) (h1 : 0 ≤ k) (h2 : k ≤ 4) : wX12_notMade k Q M ↔ Q (tz_qm (tz_rm (M.1 165) k)) M := by
  unfold wX12_notMade
  rw [tm_canMake hW h1 h2]
  simp only [tz_iw, tz_iz, wX12_notMade_B13]
  unfold tz_qm tz_rm
  cases c2 : tz_adm (M.1 165) k <;> simp
theorem tm_not7 (hW : tz_W B (M.1 165)) (hB : B ≤ 1000000000) (h1 : ts_w p1 = p1) : wX12_notSpeak p1 Q M ↔ Q (tz_q7 (tz_r7 (M.1 165) p1)) M := by
  obtain ⟨e0, _, _, e3, e4, _, _, _, _, _, _, e5, _⟩ := hW
  unfold wX12_notSpeak
  rw [tm_isSpoon h1 e0.1 e0.2]
  simp only [tz_iw, tz_iz, wX12_notSpeak_B39, wX12_notSpeak_B55]
  rw [tz_n (x := M.1 165 3) (by omega) (by omega), tz_n (x := M.1 165 4) (by omega) (by omega)]
  unfold tz_q7 tz_r7
  cases c1 : tz_in 0 p1 (M.1 165 0 - 1)
  · simp
  · have c2 := tz_in_t.mp c1
    have e6 := e5 p1 c2.1 (by omega)
    rw [tm_spoon c2.1 (by omega) (by omega) (by omega), tm_spoon c2.1 (by omega) (by omega) (by omega), tz_n (x := tz_a (M.1 165) p1 3) (by omega) (by omega), tz_n (x := tz_a (M.1 165) p1 2) (by omega) (by omega)]
    by_cases c3 : M.1 165 3 = 0
    · simp [c3]
    · by_cases c4 : M.1 165 4 = 1
      · simp [c3, c4]
      · by_cases c5 : tz_a (M.1 165) p1 3 = 2
        · simp [c3, c4, c5]
        · by_cases c6 : tz_a (M.1 165) p1 2 = 0 <;> simp [c3, c4, c5, c6]
theorem tm_not8 (hW : tz_W B (M.1 165)) : wX12_notVote Q M ↔ Q (tz_q8 (tz_r8 (M.1 165))) M := by
  have e3 := hW.2.2.2.1
  simp only [wX12_notVote, wX12_notVote_B14]
  rw [tz_n (x := M.1 165 3) (by omega) (by omega)]
  unfold tz_q8 tz_r8
  by_cases c3 : M.1 165 3 = 0 <;> simp [c3]
theorem tm_not9 (h1 : ts_w p1 = p1) (h2 : ts_w p2 = p2) (h3 : ts_w p3 = p3) : wX12_notSpill p1 p2 p3 Q M ↔ Q (tz_q9 (tz_r9 p1 p2 p3)) M := by
  unfold wX12_notSpill
  rw [tm_isCell h1 h2]
  simp only [tm_isBetween h3 (lo := 1) (up := 30) rfl rfl, tz_iw, tz_iz, wX12_notSpill_B25]
  unfold tz_q9 tz_r9
  cases c1 : (tz_in 0 p1 7 && tz_in 0 p2 7)
  · simp
  · cases c2 : tz_in 1 p3 30 <;> simp
theorem tm_not10 (hW : tz_W B (M.1 165)) (h1 : ts_w p1 = p1) (h2 : ts_w p2 = p2) : wX12_notMop p1 p2 Q M ↔ Q (tz_q10 (tz_r10 (M.1 165) p1 p2)) M := by
  obtain ⟨_, _, _, _, _, _, _, _, _, _, _, _, _, _, _, _, _, _, _, _, _, e1, _⟩ := hW
  unfold wX12_notMop
  rw [tm_isCell h1 h2]
  simp only [tz_iw, tz_iz, wX12_notMop_B33]
  unfold tz_q10 tz_r10
  cases c1 : (tz_in 0 p1 7 && tz_in 0 p2 7)
  · simp
  · have c2 := tz_in_t.mp ((Bool.and_eq_true _ _).mp c1).1
    have c3 := tz_in_t.mp ((Bool.and_eq_true _ _).mp c1).2
    have e2 := e1 (8 * p1 + p2) (by omega) (by omega)
    have e3 : M.1 165 (82 + 8 * p1 + p2) = tz_wc (M.1 165) p1 p2 := by unfold tz_wc tz_we; rw [Int.add_assoc]
    have e4 : tz_wc (M.1 165) p1 p2 = tz_we (M.1 165) (8 * p1 + p2) := rfl
    rw [tz_n (x := 82 + 8 * p1 + p2) (by omega) (by omega), e3, tz_n (x := tz_wc (M.1 165) p1 p2) (by omega) (by omega), tz_x2 (by decide), tz_p ⟨by omega, by omega⟩]
    by_cases c4 : tz_wc (M.1 165) p1 p2 = 1 <;> simp [c4]
theorem tm_not11 (hW : tz_W B (M.1 165)) (h1 : ts_w p1 = p1) (h2 : ts_w p2 = p2) : wX12_notSugar p1 p2 Q M ↔ Q (tz_q9 (tz_r11 (M.1 165) p1 p2)) M := by
  have e0 := hW.1
  unfold wX12_notSugar
  rw [tm_isSpoon h1 e0.1 e0.2]
  simp only [tm_isBetween h2 (lo := 1) (up := 9) rfl rfl, tz_iw, tz_iz, wX12_notSugar_B25]
  unfold tz_q9 tz_r11
  cases c1 : tz_in 0 p1 (M.1 165 0 - 1)
  · simp
  · cases c2 : tz_in 1 p2 9 <;> simp

theorem tc_ref0 (hW : tz_W B w) (hS : tz_S b M w) (h1 : ts_w p1 = p1) (h2 : ts_w p2 = p2) : wX9_refusalOf b 0 p1 p2 p3 Q M ↔ Q (tz_r0 w p1 p2) M := by
  unfold wX9_refusalOf
  rw [tz_y (by decide : (0 : Int) ≤ 0), tz_p (by decide : (0 : Int) ≤ 0 ∧ (0 : Int) < 12), tz_p (by decide : 0 ≤ ts_w 0 ∧ ts_w 0 < 12), tz_y (by decide : ts_w (ts_w 0 + 1) = 1)]
  have e0 := hW.1
  unfold wX9_refusalOfSpoon
  rw [tc_isBetween h1 rfl rfl]
  simp only [tc_isBetween h2 (lo := 0) (up := 99) rfl rfl, tz_iw, tz_iz, wX9_refusalOfSpoon_B20, wX9_refusalOfSpoon_B45, hS.1]
  rw [tz_n (x := w 0) (by omega) (by omega)]
  unfold tz_r0
  cases c1 : tz_in 1 p1 9
  · simp
  · cases c2 : tz_in 0 p2 99
    · simp
    · by_cases c3 : w 0 = 8
      · simp [c3]
      · have c4 : w 0 < 8 := by omega
        simp [c3, c4]

theorem tc_ref1 (hW : tz_W B w) (hS : tz_S b M w) (h1 : ts_w p1 = p1) : wX9_refusalOf b 1 p1 p2 p3 Q M ↔ Q (tz_r1 w p1) M := by
  unfold wX9_refusalOf
  rw [tz_y (by decide : (0 : Int) ≤ 1), tz_p (by decide : (0 : Int) ≤ 1 ∧ (1 : Int) < 12), tz_p (by decide : 0 ≤ ts_w 1 ∧ ts_w 1 < 12), tz_x (by decide : ¬ (ts_w (ts_w 1 + 1) = 1)), tz_y (by decide : ts_w (ts_w 1 + 1) = 2)]
  have e0 := hW.2.1
  unfold wX9_refusalOfProposal
  rw [tc_isBetween h1 rfl rfl]
  simp only [tz_iw, tz_iz, wX9_refusalOfProposal_B35, hS.2.2.2.2.1]
  rw [tz_n (x := w 1) (by omega) (by omega)]
  unfold tz_r1
  cases c1 : tz_in 0 p1 99
  · simp
  · by_cases c3 : w 1 = 6
    · simp [c3]
    · have c4 : w 1 < 6 := by omega
      simp [c3, c4]

theorem tc_refMo {k : Int} (hW : tz_W B w) (hS : tz_S b M w) (h1 : 0 ≤ k) (h2 : k ≤ 4) : wX9_refusalOfMotion b k Q M ↔ Q (tz_rm w k) M := by
  unfold wX9_refusalOfMotion
  rw [tc_admits hW hS h1 h2]
  simp only [tz_iw, tz_iz, wX9_refusalOfMotion_B20]
  unfold tz_rm
  cases c2 : tz_adm w k <;> simp

theorem tc_ref2 (hW : tz_W B w) (hS : tz_S b M w) (hB : B ≤ 1000000000) (h1 : ts_w p1 = p1) : wX9_refusalOf b 2 p1 p2 p3 Q M ↔ Q (tz_r2 w p1) M := by
  unfold wX9_refusalOf
  rw [tz_y (by decide : (0 : Int) ≤ 2), tz_p (by decide : (0 : Int) ≤ 2 ∧ (2 : Int) < 12), tz_p (by decide : 0 ≤ ts_w 2 ∧ ts_w 2 < 12), tz_x (by decide : ¬ (ts_w (ts_w 2 + 1) = 1)), tz_x (by decide : ¬ (ts_w (ts_w 2 + 1) = 2)), tz_y (by decide : ts_w (ts_w 2 + 1) = 3)]
  have e0 := hW.2.1
  have hS' := hS
  obtain ⟨_, _, _, _, s1, _, s2, _⟩ := hS'
  rw [tc_placeOf s1 (tz_L_of hB hW) (fun i h3 h4 => (s2 i h3 h4).1), h1, tc_refMo hW hS (Int.le_refl 0) (by omega)]
  simp only [wX9_refusalOf_B116]
  unfold tz_r2 tz_rm
  rcases tz_pl_rng (w := w) (v := p1) e0.2 with h5 | h5
  · rw [h5]; simp [tz_nm]
  · have h6 : ¬ (tz_pl w p1 = -1) := by omega
    rw [tz_n (x := tz_pl w p1) (by omega) (by omega), tz_x2 h6, if_neg h6]

theorem tc_ref3 (hW : tz_W B w) (hS : tz_S b M w) (h1 : ts_w p1 = p1) : wX9_refusalOf b 3 p1 p2 p3 Q M ↔ Q (tz_r3 w p1) M := by
  unfold wX9_refusalOf
  rw [tz_y (by decide : (0 : Int) ≤ 3), tz_p (by decide : (0 : Int) ≤ 3 ∧ (3 : Int) < 12), tz_p (by decide : 0 ≤ ts_w 3 ∧ ts_w 3 < 12), tz_x (by decide : ¬ (ts_w (ts_w 3 + 1) = 1)), tz_x (by decide : ¬ (ts_w (ts_w 3 + 1) = 2)), tz_x (by decide : ¬ (ts_w (ts_w 3 + 1) = 3)), tz_y (by decide : ts_w (ts_w 3 + 1) = 4)]
  rw [tc_isBetween h1 rfl rfl, tc_refMo hW hS (by omega) (by omega)]
  simp only [tz_iw, tz_iz, wX9_refusalOf_B139]
  unfold tz_r3 tz_rm
  cases c1 : tz_in (-20) p1 20 <;> simp

theorem tc_ref4 (hW : tz_W B w) (hS : tz_S b M w) : wX9_refusalOf b 4 p1 p2 p3 Q M ↔ Q (tz_rm w 2) M := by
  unfold wX9_refusalOf
  rw [tz_y (by decide : (0 : Int) ≤ 4), tz_p (by decide : (0 : Int) ≤ 4 ∧ (4 : Int) < 12), tz_p (by decide : 0 ≤ ts_w 4 ∧ ts_w 4 < 12), tz_x (by decide : ¬ (ts_w (ts_w 4 + 1) = 1)), tz_x (by decide : ¬ (ts_w (ts_w 4 + 1) = 2)), tz_x (by decide : ¬ (ts_w (ts_w 4 + 1) = 3)), tz_x (by decide : ¬ (ts_w (ts_w 4 + 1) = 4)), tz_y (by decide : ts_w (ts_w 4 + 1) = 5)]
  exact tc_refMo hW hS (by omega) (by omega)

theorem tc_ref5 (hW : tz_W B w) (hS : tz_S b M w) : wX9_refusalOf b 5 p1 p2 p3 Q M ↔ Q (tz_rm w 3) M := by
  unfold wX9_refusalOf
  rw [tz_y (by decide : (0 : Int) ≤ 5), tz_p (by decide : (0 : Int) ≤ 5 ∧ (5 : Int) < 12), tz_p (by decide : 0 ≤ ts_w 5 ∧ ts_w 5 < 12), tz_x (by decide : ¬ (ts_w (ts_w 5 + 1) = 1)), tz_x (by decide : ¬ (ts_w (ts_w 5 + 1) = 2)), tz_x (by decide : ¬ (ts_w (ts_w 5 + 1) = 3)), tz_x (by decide : ¬ (ts_w (ts_w 5 + 1) = 4)), tz_x (by decide : ¬ (ts_w (ts_w 5 + 1) = 5)), tz_y (by decide : ts_w (ts_w 5 + 1) = 6)]
  exact tc_refMo hW hS (by omega) (by omega)

theorem tc_ref6 (hW : tz_W B w) (hS : tz_S b M w) : wX9_refusalOf b 6 p1 p2 p3 Q M ↔ Q (tz_rm w 4) M := by
  unfold wX9_refusalOf
  rw [tz_y (by decide : (0 : Int) ≤ 6), tz_p (by decide : (0 : Int) ≤ 6 ∧ (6 : Int) < 12), tz_p (by decide : 0 ≤ ts_w 6 ∧ ts_w 6 < 12), tz_x (by decide : ¬ (ts_w (ts_w 6 + 1) = 1)), tz_x (by decide : ¬ (ts_w (ts_w 6 + 1) = 2)), tz_x (by decide : ¬ (ts_w (ts_w 6 + 1) = 3)), tz_x (by decide : ¬ (ts_w (ts_w 6 + 1) = 4)), tz_x (by decide : ¬ (ts_w (ts_w 6 + 1) = 5)), tz_x (by decide : ¬ (ts_w (ts_w 6 + 1) = 6)), tz_y (by decide : ts_w (ts_w 6 + 1) = 7)]
  exact tc_refMo hW hS (by omega) (by omega)

theorem tc_ref7 (hW : tz_W B w) (hS : tz_S b M w) (hB : B ≤ 1000000000) (h1 : ts_w p1 = p1) : wX9_refusalOf b 7 p1 p2 p3 Q M ↔ Q (tz_r7 w p1) M := by
  unfold wX9_refusalOf
  rw [tz_y (by decide : (0 : Int) ≤ 7), tz_p (by decide : (0 : Int) ≤ 7 ∧ (7 : Int) < 12), tz_p (by decide : 0 ≤ ts_w 7 ∧ ts_w 7 < 12), tz_x (by decide : ¬ (ts_w (ts_w 7 + 1) = 1)), tz_x (by decide : ¬ (ts_w (ts_w 7 + 1) = 2)), tz_x (by decide : ¬ (ts_w (ts_w 7 + 1) = 3)), tz_x (by decide : ¬ (ts_w (ts_w 7 + 1) = 4)), tz_x (by decide : ¬ (ts_w (ts_w 7 + 1) = 5)), tz_x (by decide : ¬ (ts_w (ts_w 7 + 1) = 6)), tz_x (by decide : ¬ (ts_w (ts_w 7 + 1) = 7)), tz_y (by decide : ts_w (ts_w 7 + 1) = 8)]
  obtain ⟨e0, _, _, e3, e4, _, _, _, _, _, _, e5, _⟩ := hW
  obtain ⟨s0, s1, _, _, _, _, _, s7, _, _, s10, _⟩ := hS
  unfold wX9_refusalOfSpeech
  rw [tc_has s0 h1 e0]
  simp only [tz_iw, tz_iz, wX9_refusalOfSpeech_B48, wX9_refusalOfSpeech_B73, s7, s10, h1]
  rw [tz_n (x := w 3) (by omega) (by omega), tz_n (x := w 4) (by omega) (by omega)]
  unfold tz_r7
  cases c1 : tz_in 0 p1 (w 0 - 1)
  · simp
  · have c2 := tz_in_t.mp c1
    have e6 := e5 p1 c2.1 (by omega)
    have s6 := s1 p1 c2.1 (by omega)
    have c7 : 0 ≤ p1 ∧ p1 < ((8 : Nat) : Int) := ⟨c2.1, by omega⟩
    rw [s6.2.2.1, s6.2.2.2, tz_n (x := tz_a w p1 3) (by omega) (by omega), tz_n (x := tz_a w p1 2) (by omega) (by omega), tz_x2 (by decide), tz_p c7, tz_p c7]
    by_cases c3 : w 3 = 0
    · simp [c3]
    · by_cases c4 : w 4 = 1
      · simp [c3, c4]
      · have c8 : w 4 = 0 := by omega
        by_cases c5 : tz_a w p1 3 = 2
        · simp [c3, c8, c5]
        · have c9 : tz_a w p1 3 < 2 := by omega
          by_cases c6 : tz_a w p1 2 = 0
          · simp [c3, c8, c5, c6, c9]
          · have c10 : 0 < tz_a w p1 2 := by omega
            simp [c3, c8, c5, c6, c9, c10]

theorem tc_ref8 (hW : tz_W B w) (hS : tz_S b M w) : wX9_refusalOf b 8 p1 p2 p3 Q M ↔ Q (tz_r8 w) M := by
  unfold wX9_refusalOf
  rw [tz_y (by decide : (0 : Int) ≤ 8), tz_p (by decide : (0 : Int) ≤ 8 ∧ (8 : Int) < 12), tz_p (by decide : 0 ≤ ts_w 8 ∧ ts_w 8 < 12), tz_x (by decide : ¬ (ts_w (ts_w 8 + 1) = 1)), tz_x (by decide : ¬ (ts_w (ts_w 8 + 1) = 2)), tz_x (by decide : ¬ (ts_w (ts_w 8 + 1) = 3)), tz_x (by decide : ¬ (ts_w (ts_w 8 + 1) = 4)), tz_x (by decide : ¬ (ts_w (ts_w 8 + 1) = 5)), tz_x (by decide : ¬ (ts_w (ts_w 8 + 1) = 6)), tz_x (by decide : ¬ (ts_w (ts_w 8 + 1) = 7)), tz_x (by decide : ¬ (ts_w (ts_w 8 + 1) = 8)), tz_y (by decide : ts_w (ts_w 8 + 1) = 9)]
  have e3 := hW.2.2.2.1
  simp only [wX9_refusalOf_B183, hS.2.2.2.2.2.2.2.1]
  rw [tz_n (x := w 3) (by omega) (by omega)]
  unfold tz_r8
  by_cases c3 : w 3 = 0 <;> simp [c3]

theorem tc_ref9 (h1 : ts_w p1 = p1) (h2 : ts_w p2 = p2) (h3 : ts_w p3 = p3) : wX9_refusalOf b 9 p1 p2 p3 Q M ↔ Q (tz_r9 p1 p2 p3) M := by
  unfold wX9_refusalOf
  rw [tz_y (by decide : (0 : Int) ≤ 9), tz_p (by decide : (0 : Int) ≤ 9 ∧ (9 : Int) < 12), tz_p (by decide : 0 ≤ ts_w 9 ∧ ts_w 9 < 12), tz_x (by decide : ¬ (ts_w (ts_w 9 + 1) = 1)), tz_x (by decide : ¬ (ts_w (ts_w 9 + 1) = 2)), tz_x (by decide : ¬ (ts_w (ts_w 9 + 1) = 3)), tz_x (by decide : ¬ (ts_w (ts_w 9 + 1) = 4)), tz_x (by decide : ¬ (ts_w (ts_w 9 + 1) = 5)), tz_x (by decide : ¬ (ts_w (ts_w 9 + 1) = 6)), tz_x (by decide : ¬ (ts_w (ts_w 9 + 1) = 7)), tz_x (by decide : ¬ (ts_w (ts_w 9 + 1) = 8)), tz_x (by decide : ¬ (ts_w (ts_w 9 + 1) = 9)), tz_y (by decide : ts_w (ts_w 9 + 1) = 10)]
  unfold wX9_refusalOfSpill
  rw [tc_hasCell h1 h2]
  simp only [tc_isBetween h3 (lo := 1) (up := 30) rfl rfl, tz_iw, tz_iz, wX9_refusalOfSpill_B31]
  unfold tz_r9
  cases c1 : (tz_in 0 p1 7 && tz_in 0 p2 7)
  · simp
  · cases c2 : tz_in 1 p3 30 <;> simp

/-- the bits of a long -/
theorem tz_bit_and {x y : Int64} {k : Nat} : tz_bit (x &&& y) k = (tz_bit x k && tz_bit y k) := by unfold tz_bit; rw [Int64.toBitVec_and, BitVec.getLsbD_and]
theorem tz_bit_or {x y : Int64} {k : Nat} : tz_bit (x ||| y) k = (tz_bit x k || tz_bit y k) := by unfold tz_bit; rw [Int64.toBitVec_or, BitVec.getLsbD_or]
theorem tz_bit_not {x : Int64} {k : Nat} (h1 : k < 64) : tz_bit (x ^^^ (-1)) k = !(tz_bit x k) := by
  have h2 : ∀ j : Fin 64, (-1 : Int64).toBitVec.getLsbD j.val = true := by decide +kernel
  unfold tz_bit
  rw [Int64.toBitVec_xor, BitVec.getLsbD_xor, h2 ⟨k, h1⟩]
  cases x.toBitVec.getLsbD k <;> rfl
theorem tz_bit_0 {k : Nat} : tz_bit 0 k = false := by unfold tz_bit; rw [Int64.toBitVec_zero, BitVec.getLsbD_zero]
theorem tz_bit_ext {x y : Int64} (h1 : ∀ k : Nat, k < 64 → tz_bit x k = tz_bit y k) : x = y := Int64.toBitVec_inj.mp (BitVec.eq_of_getLsbD_eq fun i hi => h1 i hi)
theorem tz_bit_z {x : Int64} : x = 0 ↔ ∀ k : Nat, k < 64 → tz_bit x k = false := ⟨fun h1 k _ => by rw [h1]; exact tz_bit_0, fun h1 => tz_bit_ext fun k hk => by rw [h1 k hk, tz_bit_0]⟩
theorem tz_sl_amt : ∀ k : Fin 64, (((ts_I (k.val : Int)).toInt64 &&& 63).toBitVec.smod 64).toNat = k.val := by decide +kernel
theorem tz_sr_amt : ∀ k : Fin 64, (((ts_I (k.val : Int)).toInt64.toUInt64 &&& Int64.toUInt64 63).toBitVec % 64).toNat = k.val := by decide +kernel
theorem tz_bit_shl {x : Int64} {n k : Nat} (h1 : n < 64) (h2 : k < 64) : tz_bit (ts_lshl x (n : Int)) k = (decide (n ≤ k) && tz_bit x (k - n)) := by
  unfold tz_bit ts_lshl
  rw [Int64.toBitVec_shiftLeft, BitVec.shiftLeft_eq', tz_sl_amt ⟨n, h1⟩, BitVec.getLsbD_shiftLeft]
  by_cases h3 : n ≤ k
  · have h4 : ¬ k < n := by omega
    simp [h2, h3, h4]
  · have h4 : k < n := by omega
    simp [h3, h4]
theorem tz_bit_shr {x : Int64} {n k : Nat} (h1 : n < 64) : tz_bit (ts_lushr x (n : Int)) k = tz_bit x (n + k) := by
  unfold tz_bit ts_lushr
  show ((x.toUInt64 >>> _).toBitVec).getLsbD k = _
  rw [UInt64.toBitVec_shiftRight, BitVec.ushiftRight_eq', tz_sr_amt ⟨n, h1⟩, BitVec.getLsbD_ushiftRight]
  rfl
theorem tz_bit_1 {k : Nat} : tz_bit 1 k = decide (k = 0) := by
  unfold tz_bit
  rw [Int64.toBitVec_one, BitVec.getLsbD_one]
  simp
/-- the bit of a cell -/
theorem tz_bit_c {n : Int} {k : Nat} (h1 : 0 ≤ n) (h2 : n < 64) (h3 : k < 64) : tz_bit (ts_lshl 1 n) k = decide ((k : Int) = n) := by
  have h4 : n = ((n.toNat : Nat) : Int) := by omega
  rw [h4, tz_bit_shl (by omega) h3, tz_bit_1]
  by_cases h5 : k = n.toNat
  · subst h5; simp
  · by_cases h6 : n.toNat ≤ k
    · have h7 : ¬ k - n.toNat = 0 := by omega
      have h8 : ¬ ((k : Int) = ((n.toNat : Nat) : Int)) := by omega
      rw [decide_eq_false h7, decide_eq_false h8, Bool.and_false]
    · have h8 : ¬ ((k : Int) = ((n.toNat : Nat) : Int)) := by omega
      rw [decide_eq_false h6, decide_eq_false h8, Bool.false_and]
theorem tz_bit_at {x : Int64} {n : Int} (h1 : 0 ≤ n) (h2 : n < 64) : (x &&& ts_lshl 1 n) = 0 ↔ tz_bit x n.toNat = false := by
  rw [tz_bit_z]
  constructor
  · intro h3
    have h4 := h3 n.toNat (by omega)
    rw [tz_bit_and, tz_bit_c h1 h2 (by omega), decide_eq_true (by omega), Bool.and_true] at h4
    exact h4
  · intro h3 k hk
    rw [tz_bit_and, tz_bit_c h1 h2 hk]
    by_cases h5 : (k : Int) = n
    · have h6 : k = n.toNat := by omega
      rw [h6, h3, Bool.false_and]
    · rw [decide_eq_false h5, Bool.and_false]
/-- the class's question whether a cell is wet -/
theorem tz_wet_at {r c : Int} (hS : tz_S b M w) (h1 : 0 ≤ r ∧ r ≤ 7) (h2 : 0 ≤ c ∧ c ≤ 7) : (M.2.1 (b + 11) 0 &&& ts_lshl 1 (r * 8 + c)) = 0 ↔ ¬ tz_wc w r c = 1 := by
  obtain ⟨_, _, _, _, _, _, _, _, _, _, _, _, s1, _⟩ := hS
  rw [tz_bit_at (by omega) (by omega), s1 _ (by omega), Int.toNat_of_nonneg (by omega), show r * 8 + c = 8 * r + c by omega]
  unfold tz_wc
  exact decide_eq_false_iff_not

theorem tc_ref10 (hW : tz_W B w) (hS : tz_S b M w) (h1 : ts_w p1 = p1) (h2 : ts_w p2 = p2) : wX9_refusalOf b 10 p1 p2 p3 Q M ↔ Q (tz_r10 w p1 p2) M := by
  unfold wX9_refusalOf
  rw [tz_y (by decide : (0 : Int) ≤ 10), tz_p (by decide : (0 : Int) ≤ 10 ∧ (10 : Int) < 12), tz_p (by decide : 0 ≤ ts_w 10 ∧ ts_w 10 < 12), tz_x (by decide : ¬ (ts_w (ts_w 10 + 1) = 1)), tz_x (by decide : ¬ (ts_w (ts_w 10 + 1) = 2)), tz_x (by decide : ¬ (ts_w (ts_w 10 + 1) = 3)), tz_x (by decide : ¬ (ts_w (ts_w 10 + 1) = 4)), tz_x (by decide : ¬ (ts_w (ts_w 10 + 1) = 5)), tz_x (by decide : ¬ (ts_w (ts_w 10 + 1) = 6)), tz_x (by decide : ¬ (ts_w (ts_w 10 + 1) = 7)), tz_x (by decide : ¬ (ts_w (ts_w 10 + 1) = 8)), tz_x (by decide : ¬ (ts_w (ts_w 10 + 1) = 9)), tz_x (by decide : ¬ (ts_w (ts_w 10 + 1) = 10)), tz_y (by decide : ts_w (ts_w 10 + 1) = 11)]
  unfold wX9_refusalOfMop
  rw [tc_hasCell h1 h2]
  simp only [tz_iw, tz_iz, wX9_refusalOfMop_B35, wX1_wetAt, wX1_cell]
  unfold tz_r10
  cases c1 : (tz_in 0 p1 7 && tz_in 0 p2 7)
  · simp
  · have c2 := tz_in_t.mp ((Bool.and_eq_true _ _).mp c1).1
    have c3 := tz_in_t.mp ((Bool.and_eq_true _ _).mp c1).2
    simp only [tz_wet_at hS c2 c3]
    by_cases c4 : tz_wc w p1 p2 = 1 <;> simp [c4]

theorem tc_ref11 (hW : tz_W B w) (hS : tz_S b M w) (h1 : ts_w p1 = p1) (h2 : ts_w p2 = p2) : wX9_refusalOf b 11 p1 p2 p3 Q M ↔ Q (tz_r11 w p1 p2) M := by
  unfold wX9_refusalOf
  rw [tz_y (by decide : (0 : Int) ≤ 11), tz_p (by decide : (0 : Int) ≤ 11 ∧ (11 : Int) < 12), tz_p (by decide : 0 ≤ ts_w 11 ∧ ts_w 11 < 12), tz_x (by decide : ¬ (ts_w (ts_w 11 + 1) = 1)), tz_x (by decide : ¬ (ts_w (ts_w 11 + 1) = 2)), tz_x (by decide : ¬ (ts_w (ts_w 11 + 1) = 3)), tz_x (by decide : ¬ (ts_w (ts_w 11 + 1) = 4)), tz_x (by decide : ¬ (ts_w (ts_w 11 + 1) = 5)), tz_x (by decide : ¬ (ts_w (ts_w 11 + 1) = 6)), tz_x (by decide : ¬ (ts_w (ts_w 11 + 1) = 7)), tz_x (by decide : ¬ (ts_w (ts_w 11 + 1) = 8)), tz_x (by decide : ¬ (ts_w (ts_w 11 + 1) = 9)), tz_x (by decide : ¬ (ts_w (ts_w 11 + 1) = 10)), tz_x (by decide : ¬ (ts_w (ts_w 11 + 1) = 11)), tz_y (by decide : ts_w (ts_w 11 + 1) = 12)]
  have e0 := hW.1
  unfold wX9_refusalOfSugar
  rw [tc_has hS.1 h1 e0]
  simp only [tc_isBetween h2 (lo := 1) (up := 9) rfl rfl, tz_iw, tz_iz, wX9_refusalOfSugar_B34]
  unfold tz_r11
  cases c1 : tz_in 0 p1 (w 0 - 1)
  · simp
  · cases c2 : tz_in 1 p2 9 <;> simp

end TZR
