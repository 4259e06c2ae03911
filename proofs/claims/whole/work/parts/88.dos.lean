/-! ===== commands with the arguments that count; the class's draft; what the reference does ===== -/
/-- the arguments that count agree -/
def tz_ag (c p1 p2 p3 a1 a2 a3 : Int) : Prop := (1 ≤ tz_na (tz_fm c.toNat) → p1 = a1) ∧ (2 ≤ tz_na (tz_fm c.toNat) → p2 = a2) ∧ (3 ≤ tz_na (tz_fm c.toNat) → p3 = a3)
section TZK
variable {B p p1 p2 p3 a1 a2 a3 r c x y : Int} {Q : Int → ts_M → Prop} {Qv : ts_M → Prop} {M M' M0 m : ts_M} {w : Int → Int} {wt : Nat → Bool} {i j k n b : Nat}
theorem tz_12 (hc : 0 ≤ c ∧ c ≤ 11) : c = 0 ∨ c = 1 ∨ c = 2 ∨ c = 3 ∨ c = 4 ∨ c = 5 ∨ c = 6 ∨ c = 7 ∨ c = 8 ∨ c = 9 ∨ c = 10 ∨ c = 11 := by omega
theorem tz_ag_eq (hc : 0 ≤ c ∧ c ≤ 11) (h : tz_ag c p1 p2 p3 a1 a2 a3) : tz_not w c p1 p2 p3 = tz_not w c a1 a2 a3 ∧ tz_do w c p1 p2 p3 = tz_do w c a1 a2 a3 ∧ tz_res w c p1 p2 p3 = tz_res w c a1 a2 a3 := by
  obtain ⟨h1, h2, h3⟩ := h
  rcases tz_12 hc with e | e | e | e | e | e | e | e | e | e | e | e <;> subst e
  · rw [h1 (by decide), h2 (by decide)]; exact ⟨by simp only [tz_not, Int.reduceEq, reduceIte], by simp only [tz_do, Int.reduceEq, reduceIte], by simp only [tz_res, Int.reduceEq, Int.reduceLE, reduceIte]⟩
  · rw [h1 (by decide)]; exact ⟨by simp only [tz_not, Int.reduceEq, reduceIte], by simp only [tz_do, Int.reduceEq, reduceIte], by simp only [tz_res, Int.reduceEq, Int.reduceLE, reduceIte]⟩
  · rw [h1 (by decide)]; exact ⟨by simp only [tz_not, Int.reduceEq, reduceIte], by simp only [tz_do, Int.reduceEq, reduceIte], by simp only [tz_res, Int.reduceEq, Int.reduceLE, reduceIte]⟩
  · rw [h1 (by decide)]; exact ⟨by simp only [tz_not, Int.reduceEq, reduceIte], by simp only [tz_do, Int.reduceEq, reduceIte], by simp only [tz_res, Int.reduceEq, Int.reduceLE, reduceIte]⟩
  · exact ⟨by simp only [tz_not, Int.reduceEq, reduceIte], by simp only [tz_do, Int.reduceEq, reduceIte], by simp only [tz_res, Int.reduceEq, Int.reduceLE, reduceIte]⟩
  · exact ⟨by simp only [tz_not, Int.reduceEq, reduceIte], by simp only [tz_do, Int.reduceEq, reduceIte], by simp only [tz_res, Int.reduceEq, Int.reduceLE, reduceIte]⟩
  · exact ⟨by simp only [tz_not, Int.reduceEq, reduceIte], by simp only [tz_do, Int.reduceEq, reduceIte], by simp only [tz_res, Int.reduceEq, Int.reduceLE, reduceIte]⟩
  · rw [h1 (by decide)]; exact ⟨by simp only [tz_not, Int.reduceEq, reduceIte], by simp only [tz_do, Int.reduceEq, reduceIte], by simp only [tz_res, Int.reduceEq, Int.reduceLE, reduceIte]⟩
  · exact ⟨by simp only [tz_not, Int.reduceEq, reduceIte], by simp only [tz_do, Int.reduceEq, reduceIte], by simp only [tz_res, Int.reduceEq, Int.reduceLE, reduceIte]⟩
  · rw [h1 (by decide), h2 (by decide), h3 (by decide)]; exact ⟨by simp only [tz_not, Int.reduceEq, reduceIte], by simp only [tz_do, Int.reduceEq, reduceIte], by simp only [tz_res, Int.reduceEq, Int.reduceLE, reduceIte]⟩
  · rw [h1 (by decide), h2 (by decide)]; exact ⟨by simp only [tz_not, Int.reduceEq, reduceIte], by simp only [tz_do, Int.reduceEq, reduceIte], by simp only [tz_res, Int.reduceEq, Int.reduceLE, reduceIte]⟩
  · rw [h1 (by decide), h2 (by decide)]; exact ⟨by simp only [tz_not, Int.reduceEq, reduceIte], by simp only [tz_do, Int.reduceEq, reduceIte], by simp only [tz_res, Int.reduceEq, Int.reduceLE, reduceIte]⟩
theorem tc_refAg (hW : tz_W B w) (hS : tz_S b M w) (hB : B ≤ 900000000) (hc : 0 ≤ c ∧ c ≤ 11) (h : tz_ag c p1 p2 p3 a1 a2 a3) (w1 : ts_w a1 = a1) (w2 : ts_w a2 = a2) (w3 : ts_w a3 = a3) : wX9_refusalOf b c p1 p2 p3 Q M ↔ Q (tz_not w c a1 a2 a3) M := by
  obtain ⟨h1, h2, h3⟩ := h
  have hB' : B ≤ 1000000000 := by omega
  rcases tz_12 hc with e | e | e | e | e | e | e | e | e | e | e | e <;> subst e
  · rw [h1 (by decide), h2 (by decide)]; exact tc_ref0 hW hS w1 w2
  · rw [h1 (by decide)]; exact tc_ref1 hW hS w1
  · rw [h1 (by decide)]; exact tc_ref2 hW hS hB' w1
  · rw [h1 (by decide)]; exact tc_ref3 hW hS w1
  · exact tc_ref4 hW hS
  · exact tc_ref5 hW hS
  · exact tc_ref6 hW hS
  · rw [h1 (by decide)]; exact tc_ref7 hW hS hB' w1
  · exact tc_ref8 hW hS
  · rw [h1 (by decide), h2 (by decide), h3 (by decide)]; exact tc_ref9 w1 w2 w3
  · rw [h1 (by decide), h2 (by decide)]; exact tc_ref10 hW hS w1 w2
  · rw [h1 (by decide), h2 (by decide)]; exact tc_ref11 hW hS w1 w2
/-! the reference's twelve -/
theorem tz_FR_sr {r : Int → Int} : tz_FR M (tz_sr M r) := ⟨fun _ h _ => tz_sr_ne h, rfl⟩
theorem tm_mops2 {s : Nat} (hs : s < 64) (he : 8 * p1 + p2 = (s : Int)) (hW : tz_W B (M.1 165)) (hQ : ∀ M' : ts_M, tz_FR M M' → M'.1 165 = to_mop (M.1 165) s → Q (tz_pz (M.1 165) s) M') : wX12_mops p1 p2 Q M := by
  have h4 := tz_W_4 hW
  simp only [wX12_mops, forall_eq]
  rw [he]
  refine tm_marks hs h4 (fun m1 h1 hm => ?_)
  have row1 := tz_FK_row h1
  refine tz_ex2 (fun d x1 x2 m => ∃ q : Nat, x1 = tz_pz (M.1 165) s ∧ x2 = (q : Int) ∧ q ≤ 64 ∧ d = 64 - q ∧ m = tz_sr m1 (fun j => if 82 ≤ j ∧ j < 82 + (q : Int) then M.1 165 j - m1.1 169 (j - 82) else M.1 165 j)) 64 ⟨0, rfl, rfl, by omega, rfl, ?_⟩ ?_
  · have e1 : (fun j => if 82 ≤ j ∧ j < 82 + (((0 : Nat) : Int)) then M.1 165 j - m1.1 169 (j - 82) else M.1 165 j) = m1.1 165 := by
      funext j
      rw [if_neg (by omega), row1]
    rw [e1, tz_sr_id]
  · rintro k d x1 x2 m ⟨q, rfl, rfl, i1, i2, rfl⟩ hk
    simp only [wX12_mops_L14, forall_eq]
    rw [tz_n (x := (q : Int)) (by omega) (by omega), tz_n (x := 82 + (q : Int)) (by omega) (by omega)]
    by_cases c1 : (64 : Int) ≤ (q : Int)
    · rw [tz_y c1]
      have c2 : q = 64 := by omega
      subst c2
      refine hQ _ ⟨fun a h2 h3 => (tz_sr_ne h2).trans (h1.1 a h3), h1.2⟩ ?_
      rw [tz_sr_get]
      funext j
      unfold to_mop
      by_cases c3 : 82 ≤ j ∧ j < 146
      · have c4 : 82 ≤ j ∧ j < 82 + (((64 : Nat) : Int)) := ⟨c3.1, by omega⟩
        rw [if_pos c4]
        have mk := hm (j - 82).toNat (by omega)
        rw [Int.toNat_of_nonneg (by omega)] at mk
        by_cases c5 : tz_cp (tz_wb (M.1 165)) s (j - 82).toNat
        · rw [if_pos ⟨c3.1, c3.2, c5⟩, mk.2.mpr c5]
          have := tz_cp_wet c5
          unfold tz_wb tz_we at this
          rw [decide_eq_true_eq, Int.toNat_of_nonneg (by omega), show 82 + (j - 82) = j by omega] at this
          omega
        · rw [if_neg (fun h => c5 h.2.2)]
          rcases mk.1 with h | h
          · omega
          · exact absurd (mk.2.mp h) c5
      · rw [if_neg (fun h => c3 ⟨h.1, by omega⟩), if_neg (fun h => c3 ⟨h.1, h.2.1⟩)]
    · rw [tz_x c1, tz_p ⟨by omega, by omega⟩, tz_p ⟨by omega, by omega⟩, tz_p ⟨by omega, by omega⟩]
      refine hk (64 - (q + 1)) _ _ _ (by omega) ⟨q + 1, rfl, by omega, by omega, rfl, ?_⟩
      rw [tz_si_srr, tz_sr_get, tz_sr_ne (by decide)]
      congr 1
      funext j
      unfold ts_fu
      dsimp only
      by_cases c3 : j = 82 + (q : Int)
      · rw [if_pos c3, if_neg (by omega), if_pos (by omega), c3, show 82 + (q : Int) - 82 = (q : Int) by omega]
      · rw [if_neg c3]
        by_cases c4 : 82 ≤ j ∧ j < 82 + (q : Int)
        · rw [if_pos c4, if_pos (by omega)]
        · rw [if_neg c4, if_neg (by omega)]
theorem tm_d0 (hW : tz_W B (M.1 165)) (h : tz_not (M.1 165) 0 p1 p2 p3 = 0) (hQ : ∀ M' : ts_M, tz_FR M M' → M'.1 165 = tz_do (M.1 165) 0 p1 p2 p3 → Q (tz_res (M.1 165) 0 p1 p2 p3) M') : wX12_addsSpoon p1 p2 Q M := by
  have y := tz_r0_z (w := M.1 165) (p1 := p1) (p2 := p2) h
  have e0 := hW.1
  rw [tm_addsSpoon e0.1 (by omega)]
  exact hQ _ tz_FR_sr tz_sr_get
theorem tm_d1 (hW : tz_W B (M.1 165)) (h : tz_not (M.1 165) 1 p1 p2 p3 = 0) (hQ : ∀ M' : ts_M, tz_FR M M' → M'.1 165 = tz_do (M.1 165) 1 p1 p2 p3 → Q (tz_res (M.1 165) 1 p1 p2 p3) M') : wX12_proposes p1 Q M := by
  have y := tz_r1_z (w := M.1 165) (p1 := p1) h
  have e0 := hW.2.1
  rw [tm_proposes e0.1 (by omega)]
  exact hQ _ tz_FR_sr tz_sr_get
theorem tm_d2 (hW : tz_W B (M.1 165)) (h : tz_not (M.1 165) 2 p1 p2 p3 = 0) (hQ : ∀ M' : ts_M, tz_FR M M' → M'.1 165 = tz_do (M.1 165) 2 p1 p2 p3 → Q (tz_res (M.1 165) 2 p1 p2 p3) M') : wX12_makesMain p1 Q M := by
  have y := tz_r2_z (w := M.1 165) (p1 := p1) h
  have a := tz_adm_top hW y.2 (by omega)
  have e0 := hW.2.2.2.1
  rw [tm_makesMain e0.1 (by omega)]
  exact hQ _ tz_FR_sr tz_sr_get
theorem tm_d3 (hW : tz_W B (M.1 165)) (h : tz_not (M.1 165) 3 p1 p2 p3 = 0) (hQ : ∀ M' : ts_M, tz_FR M M' → M'.1 165 = tz_do (M.1 165) 3 p1 p2 p3 → Q (tz_res (M.1 165) 3 p1 p2 p3) M') : wX12_makesAmendment p1 Q M := by
  have y := tz_r3_z (w := M.1 165) (p1 := p1) h
  have a := tz_adm_top hW y.2 (by omega)
  have e0 := hW.2.2.2.1
  rw [tm_makesAmendment e0.1 (by omega)]
  exact hQ _ tz_FR_sr tz_sr_get
theorem tm_dm {k : Int} (hW : tz_W B (M.1 165)) (h : tz_rm (M.1 165) k = 0) (h4 : k ≤ 4) (hQ : ∀ M' : ts_M, tz_FR M M' → M'.1 165 = to_make (M.1 165) k → Q (M.1 165 3 + 1) M') : wX12_makes k Q M := by
  have a := tz_adm_top hW (tz_rm_z h) h4
  have e0 := hW.2.2.2.1
  rw [tm_makes e0.1 (by omega)]
  exact hQ _ tz_FR_sr tz_sr_get
theorem tm_d7 (hW : tz_W B (M.1 165)) (h : tz_not (M.1 165) 7 p1 p2 p3 = 0) (hQ : ∀ M' : ts_M, tz_FR M M' → M'.1 165 = tz_do (M.1 165) 7 p1 p2 p3 → Q (tz_res (M.1 165) 7 p1 p2 p3) M') : wX12_speaks p1 Q M := by
  have y := tz_r7_z (w := M.1 165) (p1 := p1) h
  have e0 := hW.1
  rw [tm_speaks y.1.1 (by omega)]
  exact hQ _ tz_FR_sr tz_sr_get
theorem tm_d8 (hB : B ≤ 900000000) (hW : tz_W B (M.1 165)) (h : tz_not (M.1 165) 8 p1 p2 p3 = 0) (hQ : ∀ M' : ts_M, tz_FR M M' → M'.1 165 = tz_do (M.1 165) 8 p1 p2 p3 → Q (tz_res (M.1 165) 8 p1 p2 p3) M') : wX12_votes Q M := by
  have y := tz_r8_z (w := M.1 165) h
  rw [tm_votes hB hW y]
  exact hQ _ tz_FR_sr tz_sr_get
theorem tm_d9 (hW : tz_W B (M.1 165)) (h : tz_not (M.1 165) 9 p1 p2 p3 = 0) (hQ : ∀ M' : ts_M, tz_FR M M' → M'.1 165 = tz_do (M.1 165) 9 p1 p2 p3 → Q (tz_res (M.1 165) 9 p1 p2 p3) M') : wX12_spills p1 p2 p3 Q M := by
  have y := tz_r9_z (p1 := p1) (p2 := p2) (p3 := p3) h
  exact tm_spills y.1 y.2.1 y.2.2 hW hQ
theorem tm_d10 (hW : tz_W B (M.1 165)) (h : tz_not (M.1 165) 10 p1 p2 p3 = 0) (hQ : ∀ M' : ts_M, tz_FR M M' → M'.1 165 = tz_do (M.1 165) 10 p1 p2 p3 → Q (tz_res (M.1 165) 10 p1 p2 p3) M') : wX12_mops p1 p2 Q M := by
  have y := tz_r10_z (w := M.1 165) (p1 := p1) (p2 := p2) h
  exact tm_mops2 (s := (8 * p1 + p2).toNat) (by omega) (by omega) hW hQ
theorem tm_d11 (hW : tz_W B (M.1 165)) (h : tz_not (M.1 165) 11 p1 p2 p3 = 0) (hQ : ∀ M' : ts_M, tz_FR M M' → M'.1 165 = tz_do (M.1 165) 11 p1 p2 p3 → Q (tz_res (M.1 165) 11 p1 p2 p3) M') : wX12_gives p1 p2 Q M := by
  have y := tz_r11_z (w := M.1 165) (p1 := p1) (p2 := p2) h
  have e0 := hW.1
  rw [tm_gives y.1.1 (by omega)]
  exact hQ _ tz_FR_sr tz_sr_get
/-- what is wanted of a script's command -/
theorem tz_q2_z {r : Int} (h : 0 ≤ r ∧ r ≤ 5) (h2 : r = 0 ∨ r = 4 ∨ r = 5) : (tz_q2 r = 0 ↔ r = 0) ∧ ts_w (tz_q2 r) = tz_q2 r := by
  rcases h2 with e | e | e <;> subst e <;> decide
theorem tz_qz : ∀ r : Int, 0 ≤ r → r ≤ 5 → ts_w r = r ∧ ts_w (tz_q2 r) = tz_q2 r ∧ ts_w (tz_q3 r) = tz_q3 r ∧ ts_w (tz_qm r) = tz_qm r ∧ ts_w (tz_q7 r) = tz_q7 r ∧ ts_w (tz_q8 r) = tz_q8 r ∧ ts_w (tz_q9 r) = tz_q9 r ∧ ts_w (tz_q10 r) = tz_q10 r := fun r h1 h2 => by
  have : r = 0 ∨ r = 1 ∨ r = 2 ∨ r = 3 ∨ r = 4 ∨ r = 5 := by omega
  rcases this with e | e | e | e | e | e <;> subst e <;> decide
theorem tz_r2_or : tz_r2 w p = 0 ∨ tz_r2 w p = 4 ∨ tz_r2 w p = 5 := by unfold tz_r2; repeat' split <;> omega
theorem tz_r3_or : tz_r3 w p = 0 ∨ tz_r3 w p = 1 ∨ tz_r3 w p = 5 := by unfold tz_r3; repeat' split <;> omega
theorem tz_rm_or : tz_rm w p = 0 ∨ tz_rm w p = 5 := by unfold tz_rm; repeat' split <;> omega
theorem tz_r7_or : tz_r7 w p = 0 ∨ tz_r7 w p = 3 ∨ tz_r7 w p = 2 ∨ tz_r7 w p = 5 := by unfold tz_r7; repeat' split <;> omega
theorem tz_r8_or : tz_r8 w = 0 ∨ tz_r8 w = 4 := by unfold tz_r8; repeat' split <;> omega
theorem tz_r9_or : tz_r9 p1 p2 p3 = 0 ∨ tz_r9 p1 p2 p3 = 3 ∨ tz_r9 p1 p2 p3 = 1 := by unfold tz_r9; repeat' split <;> omega
theorem tz_r10_or : tz_r10 w p1 p2 = 0 ∨ tz_r10 w p1 p2 = 3 ∨ tz_r10 w p1 p2 = 2 := by unfold tz_r10; repeat' split <;> omega
theorem tz_r11_or : tz_r11 w p1 p2 = 0 ∨ tz_r11 w p1 p2 = 3 ∨ tz_r11 w p1 p2 = 1 := by unfold tz_r11; repeat' split <;> omega
theorem tz_r0_or : tz_r0 w p1 p2 = 0 ∨ tz_r0 w p1 p2 = 1 ∨ tz_r0 w p1 p2 = 2 := by unfold tz_r0; repeat' split <;> omega
theorem tz_r1_or : tz_r1 w p = 0 ∨ tz_r1 w p = 1 ∨ tz_r1 w p = 2 := by unfold tz_r1; repeat' split <;> omega
/-- a number that is 0 just where the command isn't refused -/
def tz_zr (r s : Int) : Prop := (s = 0 ↔ r = 0) ∧ ts_w s = s
theorem tm_notNow (hW : tz_W B (m.1 165)) (hB : B ≤ 900000000) (hc : 0 ≤ c ∧ c ≤ 11) (hs : m.1 164 19 = tz_so c) (h : tz_ag c (m.1 174 0) (m.1 174 1) (m.1 174 2) a1 a2 a3) (w1 : ts_w a1 = a1) (w2 : ts_w a2 = a2) (w3 : ts_w a3 = a3) (hQ : ∀ s : Int, tz_zr (tz_not (m.1 165) c a1 a2 a3) s → Q s m) : wX12_notNow Q m := by
  obtain ⟨h1, h2, h3⟩ := h
  have hB' : B ≤ 1000000000 := by omega
  simp only [wX12_notNow, forall_eq]
  rcases tz_12 hc with e | e | e | e | e | e | e | e | e | e | e | e <;> subst e
  · rw [hs, h1 (by decide), h2 (by decide)]
    rw [tz_x (by decide : ¬ (ts_w (tz_so 0) = 97)), tz_x (by decide : ¬ (ts_w (tz_so 0) = 98)), tz_x (by decide : ¬ (ts_w (tz_so 0) = 99)), tz_x (by decide : ¬ (ts_w (tz_so 0) = 100)), tz_x (by decide : ¬ (ts_w (tz_so 0) = 101)), tz_x (by decide : ¬ (ts_w (tz_so 0) = 102)), tz_x (by decide : ¬ (ts_w (tz_so 0) = 103)), tz_x (by decide : ¬ (ts_w (tz_so 0) = 104)), tz_x (by decide : ¬ (ts_w (tz_so 0) = 105)), tz_x (by decide : ¬ (ts_w (tz_so 0) = 106)), tz_x (by decide : ¬ (ts_w (tz_so 0) = 107)), tz_x (by decide : ¬ (ts_w (tz_so 0) = 108)), tz_x (by decide : ¬ (ts_w (tz_so 0) = 109)), tz_x (by decide : ¬ (ts_w (tz_so 0) = 110)), tz_x (by decide : ¬ (ts_w (tz_so 0) = 111)), tz_x (by decide : ¬ (ts_w (tz_so 0) = 112)), tz_x (by decide : ¬ (ts_w (tz_so 0) = 113)), tz_x (by decide : ¬ (ts_w (tz_so 0) = 114)), tz_y (by decide : ts_w (tz_so 0) = 115)]
    rw [tm_not0 hW w1 w2]
    exact hQ _ ⟨Iff.rfl, (tz_qz _ tz_r0_rng.1 tz_r0_rng.2).1⟩
  · rw [hs, h1 (by decide)]
    rw [tz_x (by decide : ¬ (ts_w (tz_so 1) = 97)), tz_x (by decide : ¬ (ts_w (tz_so 1) = 98)), tz_x (by decide : ¬ (ts_w (tz_so 1) = 99)), tz_x (by decide : ¬ (ts_w (tz_so 1) = 100)), tz_x (by decide : ¬ (ts_w (tz_so 1) = 101)), tz_x (by decide : ¬ (ts_w (tz_so 1) = 102)), tz_x (by decide : ¬ (ts_w (tz_so 1) = 103)), tz_x (by decide : ¬ (ts_w (tz_so 1) = 104)), tz_x (by decide : ¬ (ts_w (tz_so 1) = 105)), tz_x (by decide : ¬ (ts_w (tz_so 1) = 106)), tz_x (by decide : ¬ (ts_w (tz_so 1) = 107)), tz_x (by decide : ¬ (ts_w (tz_so 1) = 108)), tz_x (by decide : ¬ (ts_w (tz_so 1) = 109)), tz_x (by decide : ¬ (ts_w (tz_so 1) = 110)), tz_x (by decide : ¬ (ts_w (tz_so 1) = 111)), tz_y (by decide : ts_w (tz_so 1) = 112)]
    rw [tm_not1 hW w1]
    exact hQ _ ⟨Iff.rfl, (tz_qz _ tz_r1_rng.1 tz_r1_rng.2).1⟩
  · rw [hs, h1 (by decide)]
    rw [tz_x (by decide : ¬ (ts_w (tz_so 2) = 97)), tz_x (by decide : ¬ (ts_w (tz_so 2) = 98)), tz_x (by decide : ¬ (ts_w (tz_so 2) = 99)), tz_x (by decide : ¬ (ts_w (tz_so 2) = 100)), tz_x (by decide : ¬ (ts_w (tz_so 2) = 101)), tz_x (by decide : ¬ (ts_w (tz_so 2) = 102)), tz_x (by decide : ¬ (ts_w (tz_so 2) = 103)), tz_x (by decide : ¬ (ts_w (tz_so 2) = 104)), tz_x (by decide : ¬ (ts_w (tz_so 2) = 105)), tz_x (by decide : ¬ (ts_w (tz_so 2) = 106)), tz_x (by decide : ¬ (ts_w (tz_so 2) = 107)), tz_x (by decide : ¬ (ts_w (tz_so 2) = 108)), tz_y (by decide : ts_w (tz_so 2) = 109)]
    rw [tm_not2 hW hB' w1]
    refine hQ _ ⟨?_, (tz_qz _ tz_r2_rng.1 tz_r2_rng.2).2.1⟩
    show tz_q2 (tz_r2 (m.1 165) a1) = 0 ↔ tz_r2 (m.1 165) a1 = 0
    rcases tz_r2_or (w := m.1 165) (p := a1) with g | g | g <;> rw [g] <;> decide
  · rw [hs, h1 (by decide)]
    rw [tz_y (by decide : ts_w (tz_so 3) = 97)]
    rw [tm_not3 hW w1]
    refine hQ _ ⟨?_, (tz_qz _ tz_r3_rng.1 tz_r3_rng.2).2.2.1⟩
    show tz_q3 (tz_r3 (m.1 165) a1) = 0 ↔ tz_r3 (m.1 165) a1 = 0
    rcases tz_r3_or (w := m.1 165) (p := a1) with g | g | g <;> rw [g] <;> decide
  · rw [hs]
    rw [tz_x (by decide : ¬ (ts_w (tz_so 4) = 97)), tz_x (by decide : ¬ (ts_w (tz_so 4) = 98)), tz_x (by decide : ¬ (ts_w (tz_so 4) = 99)), tz_x (by decide : ¬ (ts_w (tz_so 4) = 100)), tz_x (by decide : ¬ (ts_w (tz_so 4) = 101)), tz_x (by decide : ¬ (ts_w (tz_so 4) = 102)), tz_x (by decide : ¬ (ts_w (tz_so 4) = 103)), tz_x (by decide : ¬ (ts_w (tz_so 4) = 104)), tz_x (by decide : ¬ (ts_w (tz_so 4) = 105)), tz_x (by decide : ¬ (ts_w (tz_so 4) = 106)), tz_x (by decide : ¬ (ts_w (tz_so 4) = 107)), tz_x (by decide : ¬ (ts_w (tz_so 4) = 108)), tz_x (by decide : ¬ (ts_w (tz_so 4) = 109)), tz_x (by decide : ¬ (ts_w (tz_so 4) = 110)), tz_x (by decide : ¬ (ts_w (tz_so 4) = 111)), tz_x (by decide : ¬ (ts_w (tz_so 4) = 112)), tz_y (by decide : ts_w (tz_so 4) = 113)]
    rw [tm_notM hW (by decide) (by decide)]
    refine hQ _ ⟨?_, (tz_qz _ tz_rm_rng.1 tz_rm_rng.2).2.2.2.1⟩
    show tz_qm (tz_rm (m.1 165) 2) = 0 ↔ tz_rm (m.1 165) 2 = 0
    rcases tz_rm_or (w := m.1 165) (p := 2) with g | g <;> rw [g] <;> decide
  · rw [hs]
    rw [tz_x (by decide : ¬ (ts_w (tz_so 5) = 97)), tz_x (by decide : ¬ (ts_w (tz_so 5) = 98)), tz_y (by decide : ts_w (tz_so 5) = 99)]
    rw [tm_notM hW (by decide) (by decide)]
    refine hQ _ ⟨?_, (tz_qz _ tz_rm_rng.1 tz_rm_rng.2).2.2.2.1⟩
    show tz_qm (tz_rm (m.1 165) 3) = 0 ↔ tz_rm (m.1 165) 3 = 0
    rcases tz_rm_or (w := m.1 165) (p := 3) with g | g <;> rw [g] <;> decide
  · rw [hs]
    rw [tz_x (by decide : ¬ (ts_w (tz_so 6) = 97)), tz_x (by decide : ¬ (ts_w (tz_so 6) = 98)), tz_x (by decide : ¬ (ts_w (tz_so 6) = 99)), tz_x (by decide : ¬ (ts_w (tz_so 6) = 100)), tz_x (by decide : ¬ (ts_w (tz_so 6) = 101)), tz_x (by decide : ¬ (ts_w (tz_so 6) = 102)), tz_x (by decide : ¬ (ts_w (tz_so 6) = 103)), tz_x (by decide : ¬ (ts_w (tz_so 6) = 104)), tz_x (by decide : ¬ (ts_w (tz_so 6) = 105)), tz_y (by decide : ts_w (tz_so 6) = 106)]
    rw [tm_notM hW (by decide) (by decide)]
    refine hQ _ ⟨?_, (tz_qz _ tz_rm_rng.1 tz_rm_rng.2).2.2.2.1⟩
    show tz_qm (tz_rm (m.1 165) 4) = 0 ↔ tz_rm (m.1 165) 4 = 0
    rcases tz_rm_or (w := m.1 165) (p := 4) with g | g <;> rw [g] <;> decide
  · rw [hs, h1 (by decide)]
    rw [tz_x (by decide : ¬ (ts_w (tz_so 7) = 97)), tz_x (by decide : ¬ (ts_w (tz_so 7) = 98)), tz_x (by decide : ¬ (ts_w (tz_so 7) = 99)), tz_x (by decide : ¬ (ts_w (tz_so 7) = 100)), tz_x (by decide : ¬ (ts_w (tz_so 7) = 101)), tz_x (by decide : ¬ (ts_w (tz_so 7) = 102)), tz_x (by decide : ¬ (ts_w (tz_so 7) = 103)), tz_x (by decide : ¬ (ts_w (tz_so 7) = 104)), tz_x (by decide : ¬ (ts_w (tz_so 7) = 105)), tz_x (by decide : ¬ (ts_w (tz_so 7) = 106)), tz_y (by decide : ts_w (tz_so 7) = 107)]
    rw [tm_not7 hW hB' w1]
    refine hQ _ ⟨?_, (tz_qz _ tz_r7_rng.1 tz_r7_rng.2).2.2.2.2.1⟩
    show tz_q7 (tz_r7 (m.1 165) a1) = 0 ↔ tz_r7 (m.1 165) a1 = 0
    rcases tz_r7_or (w := m.1 165) (p := a1) with g | g | g | g <;> rw [g] <;> decide
  · rw [hs]
    rw [tz_x (by decide : ¬ (ts_w (tz_so 8) = 97)), tz_x (by decide : ¬ (ts_w (tz_so 8) = 98)), tz_x (by decide : ¬ (ts_w (tz_so 8) = 99)), tz_x (by decide : ¬ (ts_w (tz_so 8) = 100)), tz_x (by decide : ¬ (ts_w (tz_so 8) = 101)), tz_x (by decide : ¬ (ts_w (tz_so 8) = 102)), tz_x (by decide : ¬ (ts_w (tz_so 8) = 103)), tz_x (by decide : ¬ (ts_w (tz_so 8) = 104)), tz_x (by decide : ¬ (ts_w (tz_so 8) = 105)), tz_x (by decide : ¬ (ts_w (tz_so 8) = 106)), tz_x (by decide : ¬ (ts_w (tz_so 8) = 107)), tz_x (by decide : ¬ (ts_w (tz_so 8) = 108)), tz_x (by decide : ¬ (ts_w (tz_so 8) = 109)), tz_x (by decide : ¬ (ts_w (tz_so 8) = 110)), tz_x (by decide : ¬ (ts_w (tz_so 8) = 111)), tz_x (by decide : ¬ (ts_w (tz_so 8) = 112)), tz_x (by decide : ¬ (ts_w (tz_so 8) = 113)), tz_x (by decide : ¬ (ts_w (tz_so 8) = 114)), tz_x (by decide : ¬ (ts_w (tz_so 8) = 115)), tz_x (by decide : ¬ (ts_w (tz_so 8) = 116)), tz_x (by decide : ¬ (ts_w (tz_so 8) = 117))]
    rw [tm_not8 hW]
    refine hQ _ ⟨?_, (tz_qz _ tz_r8_rng.1 tz_r8_rng.2).2.2.2.2.2.1⟩
    show tz_q8 (tz_r8 (m.1 165)) = 0 ↔ tz_r8 (m.1 165) = 0
    rcases tz_r8_or (w := m.1 165) with g | g <;> rw [g] <;> decide
  · rw [hs, h1 (by decide), h2 (by decide), h3 (by decide)]
    rw [tz_x (by decide : ¬ (ts_w (tz_so 9) = 97)), tz_x (by decide : ¬ (ts_w (tz_so 9) = 98)), tz_x (by decide : ¬ (ts_w (tz_so 9) = 99)), tz_x (by decide : ¬ (ts_w (tz_so 9) = 100)), tz_x (by decide : ¬ (ts_w (tz_so 9) = 101)), tz_x (by decide : ¬ (ts_w (tz_so 9) = 102)), tz_x (by decide : ¬ (ts_w (tz_so 9) = 103)), tz_x (by decide : ¬ (ts_w (tz_so 9) = 104)), tz_y (by decide : ts_w (tz_so 9) = 105)]
    rw [tm_not9 w1 w2 w3]
    refine hQ _ ⟨?_, (tz_qz _ tz_r9_rng.1 tz_r9_rng.2).2.2.2.2.2.2.1⟩
    show tz_q9 (tz_r9 a1 a2 a3) = 0 ↔ tz_r9 a1 a2 a3 = 0
    rcases tz_r9_or (p1 := a1) (p2 := a2) (p3 := a3) with g | g | g <;> rw [g] <;> decide
  · rw [hs, h1 (by decide), h2 (by decide)]
    rw [tz_x (by decide : ¬ (ts_w (tz_so 10) = 97)), tz_x (by decide : ¬ (ts_w (tz_so 10) = 98)), tz_x (by decide : ¬ (ts_w (tz_so 10) = 99)), tz_y (by decide : ts_w (tz_so 10) = 100)]
    rw [tm_not10 hW w1 w2]
    refine hQ _ ⟨?_, (tz_qz _ tz_r10_rng.1 tz_r10_rng.2).2.2.2.2.2.2.2⟩
    show tz_q10 (tz_r10 (m.1 165) a1 a2) = 0 ↔ tz_r10 (m.1 165) a1 a2 = 0
    rcases tz_r10_or (w := m.1 165) (p1 := a1) (p2 := a2) with g | g | g <;> rw [g] <;> decide
  · rw [hs, h1 (by decide), h2 (by decide)]
    rw [tz_x (by decide : ¬ (ts_w (tz_so 11) = 97)), tz_x (by decide : ¬ (ts_w (tz_so 11) = 98)), tz_x (by decide : ¬ (ts_w (tz_so 11) = 99)), tz_x (by decide : ¬ (ts_w (tz_so 11) = 100)), tz_x (by decide : ¬ (ts_w (tz_so 11) = 101)), tz_x (by decide : ¬ (ts_w (tz_so 11) = 102)), tz_x (by decide : ¬ (ts_w (tz_so 11) = 103)), tz_x (by decide : ¬ (ts_w (tz_so 11) = 104)), tz_x (by decide : ¬ (ts_w (tz_so 11) = 105)), tz_x (by decide : ¬ (ts_w (tz_so 11) = 106)), tz_x (by decide : ¬ (ts_w (tz_so 11) = 107)), tz_x (by decide : ¬ (ts_w (tz_so 11) = 108)), tz_x (by decide : ¬ (ts_w (tz_so 11) = 109)), tz_x (by decide : ¬ (ts_w (tz_so 11) = 110)), tz_x (by decide : ¬ (ts_w (tz_so 11) = 111)), tz_x (by decide : ¬ (ts_w (tz_so 11) = 112)), tz_x (by decide : ¬ (ts_w (tz_so 11) = 113)), tz_x (by decide : ¬ (ts_w (tz_so 11) = 114)), tz_x (by decide : ¬ (ts_w (tz_so 11) = 115)), tz_x (by decide : ¬ (ts_w (tz_so 11) = 116)), tz_y (by decide : ts_w (tz_so 11) = 117)]
    rw [tm_not11 hW w1 w2]
    refine hQ _ ⟨?_, (tz_qz _ tz_r11_rng.1 tz_r11_rng.2).2.2.2.2.2.2.1⟩
    show tz_q9 (tz_r11 (m.1 165) a1 a2) = 0 ↔ tz_r11 (m.1 165) a1 a2 = 0
    rcases tz_r11_or (w := m.1 165) (p1 := a1) (p2 := a2) with g | g | g <;> rw [g] <;> decide
theorem tm_doesNow (hW : tz_W B (m.1 165)) (hB : B ≤ 900000000) (hc : 0 ≤ c ∧ c ≤ 11) (hs : m.1 164 19 = tz_so c) (h : tz_ag c (m.1 174 0) (m.1 174 1) (m.1 174 2) a1 a2 a3) (hz : tz_not (m.1 165) c a1 a2 a3 = 0) (hQ : ∀ (r : Int) (m' : ts_M), tz_FR m m' → m'.1 165 = tz_do (m.1 165) c a1 a2 a3 → Q r m') : wX12_doesNow Q m := by
  obtain ⟨h1, h2, h3⟩ := h
  simp only [wX12_doesNow, forall_eq]
  rcases tz_12 hc with e | e | e | e | e | e | e | e | e | e | e | e <;> subst e
  · rw [hs, h1 (by decide), h2 (by decide)]
    rw [tz_x (by decide : ¬ (ts_w (tz_so 0) = 97)), tz_x (by decide : ¬ (ts_w (tz_so 0) = 98)), tz_x (by decide : ¬ (ts_w (tz_so 0) = 99)), tz_x (by decide : ¬ (ts_w (tz_so 0) = 100)), tz_x (by decide : ¬ (ts_w (tz_so 0) = 101)), tz_x (by decide : ¬ (ts_w (tz_so 0) = 102)), tz_x (by decide : ¬ (ts_w (tz_so 0) = 103)), tz_x (by decide : ¬ (ts_w (tz_so 0) = 104)), tz_x (by decide : ¬ (ts_w (tz_so 0) = 105)), tz_x (by decide : ¬ (ts_w (tz_so 0) = 106)), tz_x (by decide : ¬ (ts_w (tz_so 0) = 107)), tz_x (by decide : ¬ (ts_w (tz_so 0) = 108)), tz_x (by decide : ¬ (ts_w (tz_so 0) = 109)), tz_x (by decide : ¬ (ts_w (tz_so 0) = 110)), tz_x (by decide : ¬ (ts_w (tz_so 0) = 111)), tz_x (by decide : ¬ (ts_w (tz_so 0) = 112)), tz_x (by decide : ¬ (ts_w (tz_so 0) = 113)), tz_x (by decide : ¬ (ts_w (tz_so 0) = 114)), tz_y (by decide : ts_w (tz_so 0) = 115)]
    exact tm_d0 (p3 := a3) hW hz (fun m' => hQ _ m')
  · rw [hs, h1 (by decide)]
    rw [tz_x (by decide : ¬ (ts_w (tz_so 1) = 97)), tz_x (by decide : ¬ (ts_w (tz_so 1) = 98)), tz_x (by decide : ¬ (ts_w (tz_so 1) = 99)), tz_x (by decide : ¬ (ts_w (tz_so 1) = 100)), tz_x (by decide : ¬ (ts_w (tz_so 1) = 101)), tz_x (by decide : ¬ (ts_w (tz_so 1) = 102)), tz_x (by decide : ¬ (ts_w (tz_so 1) = 103)), tz_x (by decide : ¬ (ts_w (tz_so 1) = 104)), tz_x (by decide : ¬ (ts_w (tz_so 1) = 105)), tz_x (by decide : ¬ (ts_w (tz_so 1) = 106)), tz_x (by decide : ¬ (ts_w (tz_so 1) = 107)), tz_x (by decide : ¬ (ts_w (tz_so 1) = 108)), tz_x (by decide : ¬ (ts_w (tz_so 1) = 109)), tz_x (by decide : ¬ (ts_w (tz_so 1) = 110)), tz_x (by decide : ¬ (ts_w (tz_so 1) = 111)), tz_y (by decide : ts_w (tz_so 1) = 112)]
    exact tm_d1 (p2 := a2) (p3 := a3) hW hz (fun m' => hQ _ m')
  · rw [hs, h1 (by decide)]
    rw [tz_x (by decide : ¬ (ts_w (tz_so 2) = 97)), tz_x (by decide : ¬ (ts_w (tz_so 2) = 98)), tz_x (by decide : ¬ (ts_w (tz_so 2) = 99)), tz_x (by decide : ¬ (ts_w (tz_so 2) = 100)), tz_x (by decide : ¬ (ts_w (tz_so 2) = 101)), tz_x (by decide : ¬ (ts_w (tz_so 2) = 102)), tz_x (by decide : ¬ (ts_w (tz_so 2) = 103)), tz_x (by decide : ¬ (ts_w (tz_so 2) = 104)), tz_x (by decide : ¬ (ts_w (tz_so 2) = 105)), tz_x (by decide : ¬ (ts_w (tz_so 2) = 106)), tz_x (by decide : ¬ (ts_w (tz_so 2) = 107)), tz_x (by decide : ¬ (ts_w (tz_so 2) = 108)), tz_y (by decide : ts_w (tz_so 2) = 109)]
    exact tm_d2 (p2 := a2) (p3 := a3) hW hz (fun m' => hQ _ m')
  · rw [hs, h1 (by decide)]
    rw [tz_y (by decide : ts_w (tz_so 3) = 97)]
    exact tm_d3 (p2 := a2) (p3 := a3) hW hz (fun m' => hQ _ m')
  · rw [hs]
    rw [tz_x (by decide : ¬ (ts_w (tz_so 4) = 97)), tz_x (by decide : ¬ (ts_w (tz_so 4) = 98)), tz_x (by decide : ¬ (ts_w (tz_so 4) = 99)), tz_x (by decide : ¬ (ts_w (tz_so 4) = 100)), tz_x (by decide : ¬ (ts_w (tz_so 4) = 101)), tz_x (by decide : ¬ (ts_w (tz_so 4) = 102)), tz_x (by decide : ¬ (ts_w (tz_so 4) = 103)), tz_x (by decide : ¬ (ts_w (tz_so 4) = 104)), tz_x (by decide : ¬ (ts_w (tz_so 4) = 105)), tz_x (by decide : ¬ (ts_w (tz_so 4) = 106)), tz_x (by decide : ¬ (ts_w (tz_so 4) = 107)), tz_x (by decide : ¬ (ts_w (tz_so 4) = 108)), tz_x (by decide : ¬ (ts_w (tz_so 4) = 109)), tz_x (by decide : ¬ (ts_w (tz_so 4) = 110)), tz_x (by decide : ¬ (ts_w (tz_so 4) = 111)), tz_x (by decide : ¬ (ts_w (tz_so 4) = 112)), tz_y (by decide : ts_w (tz_so 4) = 113)]
    exact tm_dm hW hz (by decide) (fun m' => hQ _ m')
  · rw [hs]
    rw [tz_x (by decide : ¬ (ts_w (tz_so 5) = 97)), tz_x (by decide : ¬ (ts_w (tz_so 5) = 98)), tz_y (by decide : ts_w (tz_so 5) = 99)]
    exact tm_dm hW hz (by decide) (fun m' => hQ _ m')
  · rw [hs]
    rw [tz_x (by decide : ¬ (ts_w (tz_so 6) = 97)), tz_x (by decide : ¬ (ts_w (tz_so 6) = 98)), tz_x (by decide : ¬ (ts_w (tz_so 6) = 99)), tz_x (by decide : ¬ (ts_w (tz_so 6) = 100)), tz_x (by decide : ¬ (ts_w (tz_so 6) = 101)), tz_x (by decide : ¬ (ts_w (tz_so 6) = 102)), tz_x (by decide : ¬ (ts_w (tz_so 6) = 103)), tz_x (by decide : ¬ (ts_w (tz_so 6) = 104)), tz_x (by decide : ¬ (ts_w (tz_so 6) = 105)), tz_y (by decide : ts_w (tz_so 6) = 106)]
    exact tm_dm hW hz (by decide) (fun m' => hQ _ m')
  · rw [hs, h1 (by decide)]
    rw [tz_x (by decide : ¬ (ts_w (tz_so 7) = 97)), tz_x (by decide : ¬ (ts_w (tz_so 7) = 98)), tz_x (by decide : ¬ (ts_w (tz_so 7) = 99)), tz_x (by decide : ¬ (ts_w (tz_so 7) = 100)), tz_x (by decide : ¬ (ts_w (tz_so 7) = 101)), tz_x (by decide : ¬ (ts_w (tz_so 7) = 102)), tz_x (by decide : ¬ (ts_w (tz_so 7) = 103)), tz_x (by decide : ¬ (ts_w (tz_so 7) = 104)), tz_x (by decide : ¬ (ts_w (tz_so 7) = 105)), tz_x (by decide : ¬ (ts_w (tz_so 7) = 106)), tz_y (by decide : ts_w (tz_so 7) = 107)]
    exact tm_d7 (p2 := a2) (p3 := a3) hW hz (fun m' => hQ _ m')
  · rw [hs]
    rw [tz_x (by decide : ¬ (ts_w (tz_so 8) = 97)), tz_x (by decide : ¬ (ts_w (tz_so 8) = 98)), tz_x (by decide : ¬ (ts_w (tz_so 8) = 99)), tz_x (by decide : ¬ (ts_w (tz_so 8) = 100)), tz_x (by decide : ¬ (ts_w (tz_so 8) = 101)), tz_x (by decide : ¬ (ts_w (tz_so 8) = 102)), tz_x (by decide : ¬ (ts_w (tz_so 8) = 103)), tz_x (by decide : ¬ (ts_w (tz_so 8) = 104)), tz_x (by decide : ¬ (ts_w (tz_so 8) = 105)), tz_x (by decide : ¬ (ts_w (tz_so 8) = 106)), tz_x (by decide : ¬ (ts_w (tz_so 8) = 107)), tz_x (by decide : ¬ (ts_w (tz_so 8) = 108)), tz_x (by decide : ¬ (ts_w (tz_so 8) = 109)), tz_x (by decide : ¬ (ts_w (tz_so 8) = 110)), tz_x (by decide : ¬ (ts_w (tz_so 8) = 111)), tz_x (by decide : ¬ (ts_w (tz_so 8) = 112)), tz_x (by decide : ¬ (ts_w (tz_so 8) = 113)), tz_x (by decide : ¬ (ts_w (tz_so 8) = 114)), tz_x (by decide : ¬ (ts_w (tz_so 8) = 115)), tz_x (by decide : ¬ (ts_w (tz_so 8) = 116)), tz_x (by decide : ¬ (ts_w (tz_so 8) = 117))]
    exact tm_d8 (p1 := a1) (p2 := a2) (p3 := a3) hB hW hz (fun m' => hQ _ m')
  · rw [hs, h1 (by decide), h2 (by decide), h3 (by decide)]
    rw [tz_x (by decide : ¬ (ts_w (tz_so 9) = 97)), tz_x (by decide : ¬ (ts_w (tz_so 9) = 98)), tz_x (by decide : ¬ (ts_w (tz_so 9) = 99)), tz_x (by decide : ¬ (ts_w (tz_so 9) = 100)), tz_x (by decide : ¬ (ts_w (tz_so 9) = 101)), tz_x (by decide : ¬ (ts_w (tz_so 9) = 102)), tz_x (by decide : ¬ (ts_w (tz_so 9) = 103)), tz_x (by decide : ¬ (ts_w (tz_so 9) = 104)), tz_y (by decide : ts_w (tz_so 9) = 105)]
    exact tm_d9 hW hz (fun m' => hQ _ m')
  · rw [hs, h1 (by decide), h2 (by decide)]
    rw [tz_x (by decide : ¬ (ts_w (tz_so 10) = 97)), tz_x (by decide : ¬ (ts_w (tz_so 10) = 98)), tz_x (by decide : ¬ (ts_w (tz_so 10) = 99)), tz_y (by decide : ts_w (tz_so 10) = 100)]
    exact tm_d10 (p3 := a3) hW hz (fun m' => hQ _ m')
  · rw [hs, h1 (by decide), h2 (by decide)]
    rw [tz_x (by decide : ¬ (ts_w (tz_so 11) = 97)), tz_x (by decide : ¬ (ts_w (tz_so 11) = 98)), tz_x (by decide : ¬ (ts_w (tz_so 11) = 99)), tz_x (by decide : ¬ (ts_w (tz_so 11) = 100)), tz_x (by decide : ¬ (ts_w (tz_so 11) = 101)), tz_x (by decide : ¬ (ts_w (tz_so 11) = 102)), tz_x (by decide : ¬ (ts_w (tz_so 11) = 103)), tz_x (by decide : ¬ (ts_w (tz_so 11) = 104)), tz_x (by decide : ¬ (ts_w (tz_so 11) = 105)), tz_x (by decide : ¬ (ts_w (tz_so 11) = 106)), tz_x (by decide : ¬ (ts_w (tz_so 11) = 107)), tz_x (by decide : ¬ (ts_w (tz_so 11) = 108)), tz_x (by decide : ¬ (ts_w (tz_so 11) = 109)), tz_x (by decide : ¬ (ts_w (tz_so 11) = 110)), tz_x (by decide : ¬ (ts_w (tz_so 11) = 111)), tz_x (by decide : ¬ (ts_w (tz_so 11) = 112)), tz_x (by decide : ¬ (ts_w (tz_so 11) = 113)), tz_x (by decide : ¬ (ts_w (tz_so 11) = 114)), tz_x (by decide : ¬ (ts_w (tz_so 11) = 115)), tz_x (by decide : ¬ (ts_w (tz_so 11) = 116)), tz_y (by decide : ts_w (tz_so 11) = 117)]
    exact tm_d11 (p3 := a3) hW hz (fun m' => hQ _ m')
end TZK
