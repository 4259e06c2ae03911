/-! ===== the law's rounds: readers that may throw ===== -/
/-- what the two sides of a reader are asked -/
def tz_A (m : ts_M) (o0 v0 : Int) (Q : Int → ts_M → Prop) : Prop := ∀ (x : Int) (m' : ts_M), tz_Q m m' → m'.1 164 0 = o0 → m'.2.1 175 0 = m.2.1 175 0 → (ts_w o0 = 0 → x = v0) → Q x m'
def tz_Bc (M : ts_M) (o0 v0 : Int) (Qc : Int → ts_M → Prop) : Prop := ∀ m : ts_M, tz_Q M m → (ts_w o0 = 0 → m.2.1 175 0 = ts_L v0) → Qc o0 m
/-- a motion's letter -/
def tz_lt (r : Int) : Int := if r = 0 then 109 else if r = 1 then 97 else if r = 2 then 112 else if r = 3 then 99 else 106
section TLR
variable {B B' n y5 o v o0 v0 p p1 p2 x r q k : Int} {L : Nat} {xs : Nat → Int32} {k28 : Int → ts_M → Prop} {Q Qc : Int → ts_M → Prop} {Qv : ts_M → Prop} {X : String → ts_M → Prop} {M M' m m' : ts_M} {w w' : Int → Int}
theorem tz_A_ok (hA : tz_A m 0 v0 Q) : Q v0 (ts_si m 164 0 0) := hA _ _ (tz_Q_si (by decide)) tz_si_a rfl (fun _ => rfl)
theorem tz_A_okQ (hA : tz_A m 0 v0 Q) (hq : tz_Q (ts_si m 164 0 0) m') (h0 : m'.1 164 0 = 0) (h5 : m'.2.1 175 0 = m.2.1 175 0) : Q v0 m' := hA _ _ (tz_Q_tr (tz_Q_si (by decide)) hq) h0 h5 (fun _ => rfl)
theorem tz_A_no0 (hA : tz_A m q v0 Q) (hn : ts_w q ≠ 0) : Q 0 (ts_si (ts_si m 164 0 0) 164 0 q) := hA 0 _ (tz_Q_tr (tz_Q_si (by decide)) (tz_Q_si (by decide))) tz_si_a rfl (fun h => absurd h hn)
theorem tz_A_no (hA : tz_A m q v0 Q) (hn : ts_w q ≠ 0) : wX12_fails q Q (ts_si m 164 0 0) := by
  unfold wX12_fails
  intro M1 e
  rw [e]
  exact tz_A_no0 hA hn
theorem tz_A_nof (hA : tz_A m q v0 Q) (hn : ts_w q ≠ 0) : wX12_fails q (fun r8 M7 => ((ts_w r8 ≤ 0 → ((ts_w 0 = 0 ∨ ts_w 0 = 1) ∧ Q 0 M7)) ∧ (¬ (ts_w r8 ≤ 0) → ((ts_w 1 = 0 ∨ ts_w 1 = 1) ∧ Q 1 M7)))) (ts_si m 164 0 0) := by
  unfold wX12_fails
  intro M1 e
  rw [e]
  exact tl_f0 (Q := Q) (tz_A_no0 hA hn)
theorem tz_nz1 : ts_w 1 ≠ 0 := by rw [tz_n1]; decide
theorem tz_nz2 : ts_w 2 ≠ 0 := by rw [tz_n2]; decide
theorem tz_B_ok (hA : tz_Bc M 0 v0 Qc) (hq : tz_Q M m) : ∀ M5 : ts_M, M5 = ts_sl m 175 0 (ts_L v0) → Qc 0 M5 := fun M5 e => by
  rw [e]
  exact hA _ (tz_Q_tr hq tz_Q_sl) (fun _ => tz_sl_a)
theorem tz_B_no (hA : tz_Bc M q v0 Qc) (hn : ts_w q ≠ 0) : Qc q M := hA M tz_Q_rfl (fun h => absurd h hn)
theorem tz_B_okb (hA : tz_Bc M 0 v0 Qc) (hb : v0 = 0 ∨ v0 = 1) (hq : tz_Q M m) : ((ts_w v0 = 0 → ((0 ≤ ts_w 0 ∧ ts_w 0 < ((1 : Nat) : Int)) ∧ ∀ M5 : ts_M, M5 = ts_sl m 175 (ts_w 0) 0 → Qc 0 M5)) ∧ (¬ (ts_w v0 = 0) → ((0 ≤ ts_w 0 ∧ ts_w 0 < ((1 : Nat) : Int)) ∧ ∀ M5 : ts_M, M5 = ts_sl m 175 (ts_w 0) 1 → Qc 0 M5))) := tl_wb hb (tz_B_ok hA hq _ rfl)
theorem tz_bw01 (hb : v = 0 ∨ v = 1) : ts_w v = 0 ∨ ts_w v = 1 := by
  rcases hb with h | h <;> rw [h] <;> decide
/-! the class's questions -/
theorem tc_checkSpoon (hW : tz_W B w) (hS : tz_S 0 M w) (h1 : ts_w p = p) (hy : 0 ≤ p ∧ p < w 0 → Qv M) (hn : ¬ (0 ≤ p ∧ p < w 0) → X "java/lang/IndexOutOfBoundsException" M) : wX11_checkSpoon p Qv X M := by
  have e0 := (tz_W_1 hW).1
  unfold wX11_checkSpoon
  refine (tc_has (b := 0) (tz_S_1 hS).1 h1 e0).mpr ?_
  rw [tz_iw]
  by_cases c : 0 ≤ p ∧ p < w 0
  · rw [tz_in_t.mpr (by omega : 0 ≤ p ∧ p ≤ w 0 - 1), tz_i1]
    exact ⟨fun _ => hy c, fun h => absurd h (by decide)⟩
  · rw [tz_in_f.mpr (by omega : ¬ (0 ≤ p ∧ p ≤ w 0 - 1)), tz_i0]
    exact ⟨fun h => absurd rfl h, fun _ => hn c⟩
theorem tc_checkCell (h1 : ts_w p1 = p1) (h2 : ts_w p2 = p2) (hy : (0 ≤ p1 ∧ p1 ≤ 7) ∧ 0 ≤ p2 ∧ p2 ≤ 7 → Qv M) (hn : ¬ ((0 ≤ p1 ∧ p1 ≤ 7) ∧ 0 ≤ p2 ∧ p2 ≤ 7) → X "java/lang/IndexOutOfBoundsException" M) : wX11_checkCell p1 p2 Qv X M := by
  unfold wX11_checkCell
  refine (tc_hasCell h1 h2).mpr ?_
  rw [tz_iw]
  by_cases c : (0 ≤ p1 ∧ p1 ≤ 7) ∧ 0 ≤ p2 ∧ p2 ≤ 7
  · rw [tz_in_t.mpr c.1, tz_in_t.mpr c.2]
    exact ⟨fun _ => hy c, fun h => absurd h (by decide)⟩
  · have e : (tz_in 0 p1 7 && tz_in 0 p2 7) = false := by
      by_cases c1 : 0 ≤ p1 ∧ p1 ≤ 7
      · rw [tz_in_f.mpr (fun c2 => c ⟨c1, c2⟩), Bool.and_false]
      · rw [tz_in_f.mpr c1, Bool.false_and]
    rw [e, tz_i0]
    exact ⟨fun h => absurd rfl h, fun _ => hn c⟩
theorem tc_checkPlace (hW : tz_W B w) (hS : tz_S 0 M w) (h1 : ts_w p = p) (hy : 0 ≤ p ∧ p < w 1 → Qv M) (hn : ¬ (0 ≤ p ∧ p < w 1) → X "java/util/NoSuchElementException" M) : wX11_checkPlaceOnList p Qv X M := by
  have e1 := (tz_W_2 hW).1
  have e : M.1 6 2 = w 1 := (tz_S_2 hS).1
  unfold wX11_checkPlaceOnList
  rw [e, h1, tz_n (x := w 1) (by omega) (by omega)]
  exact ⟨fun h => hn (by omega), fun h => ⟨fun h2 => hy (by omega), fun h2 => hn (by omega)⟩⟩
theorem tc_checkOnList (hW : tz_W B w) (hB : B ≤ 800000000) (hS : tz_S 0 M w) (h1 : ts_w p = p) (hy : 0 ≤ tz_pl w p → tz_pl w p < w 1 → Qv M) (hn : tz_pl w p = -1 → X "java/util/NoSuchElementException" M) : wX11_checkOnList p Qv X M := by
  have e1 := (tz_W_2 hW).1
  have hP := tz_S_2 hS
  unfold wX11_checkOnList
  refine (tc_placeOf (b := 0) hP.1 (tz_L_of (by omega) hW) (fun i h4 h5 => (hP.2.2 i h4 h5).1)).mpr ?_
  rw [h1]
  rcases tz_pl_rng (v := p) e1.2 with c | c
  · rw [c, tz_nm]
    exact ⟨fun h => absurd rfl h, fun _ => hn c⟩
  · rw [tz_n (x := tz_pl w p) (by omega) (by omega)]
    exact ⟨fun _ => hy c.1 c.2.1, fun h => hn h⟩
theorem tc_checkMotion (hW : tz_W B w) (hS : tz_S 0 M w) (hy : w 3 ≠ 0 → Qv M) (hn : w 3 = 0 → X "java/util/NoSuchElementException" M) : wX11_checkMotion Qv X M := by
  have e3 := (tz_W_3 hW).1
  have e : M.1 9 1 = w 3 := (tz_S_3 hS).1
  unfold wX11_checkMotion
  rw [e, tz_n (x := w 3) (by omega) (by omega)]
  exact ⟨hy, hn⟩
/-! spoons -/
theorem tm_tells_y (hW : tz_W B (m.1 165)) (h1 : ts_w p = p) (hk : 0 ≤ k ∧ k ≤ 3) (c : 0 ≤ p ∧ p < m.1 165 0) (hA : tz_A m 0 (tz_a (m.1 165) p k) Q) : wX12_tells p k Q m := by
  have e0 := (tz_W_1 hW).1
  unfold wX12_tells
  intro M1 e
  have e1 : M1.1 165 = m.1 165 := by rw [e, ts_si_ne (by decide)]
  refine (tm_isSpoon h1 (by rw [e1]; omega) (by rw [e1]; omega)).mpr ?_
  rw [e1, tz_in_t.mpr (by omega : 0 ≤ p ∧ p ≤ m.1 165 0 - 1), tz_i1, tz_n1]
  refine ⟨fun h => absurd h (by decide), fun _ => ?_⟩
  refine (tm_spoon c.1 (by omega) hk.1 hk.2).mpr ?_
  rw [e1, e]
  exact tz_A_ok hA
theorem tm_tells_n (hW : tz_W B (m.1 165)) (h1 : ts_w p = p) (c : ¬ (0 ≤ p ∧ p < m.1 165 0)) (hA : tz_A m 1 v0 Q) : wX12_tells p k Q m := by
  have e0 := (tz_W_1 hW).1
  unfold wX12_tells
  intro M1 e
  have e1 : M1.1 165 = m.1 165 := by rw [e, ts_si_ne (by decide)]
  refine (tm_isSpoon h1 (by rw [e1]; omega) (by rw [e1]; omega)).mpr ?_
  rw [e1, tz_in_f.mpr (by omega : ¬ (0 ≤ p ∧ p ≤ m.1 165 0 - 1)), tz_i0, tz_n0]
  refine ⟨fun _ => ?_, fun h => absurd rfl h⟩
  rw [e]
  exact tz_A_no hA tz_nz1
theorem tl_c13 (hJ : tz_J B M) (hB : B ≤ 800000000) (b1 : (0 ≤ ts_w (y5 + 1) ∧ ts_w (y5 + 1) < (L : Int))) (hk : tz_K B y5 k28) : wL_law_B1004 L xs k28 Q y5 M := by
  have hW := hJ.1.1
  have hS := hJ.1.2
  have h1 : ts_w (ts_xs xs (ts_w (y5 + 1))) = ts_xs xs (ts_w (y5 + 1)) := tz_xw
  unfold wL_law_B1004
  generalize ts_xs xs (ts_w (y5 + 1)) = p1 at h1 ⊢
  have e0 := (tz_W_1 hW).1
  by_cases c : 0 ≤ p1 ∧ p1 < M.1 165 0
  · exact tl_RI (F := fun Qc m => (0 ≤ ts_w (y5 + 1) ∧ ts_w (y5 + 1) < (L : Int)) ∧ wL_weight p1 Qc m) (G := fun Q m => (0 ≤ ts_w (y5 + 1) ∧ ts_w (y5 + 1) < (L : Int)) ∧ wX12_weight p1 Q m) (o0 := 0) (v0 := tz_a (M.1 165) p1 0) hJ hk
      (fun Qc hQ => ⟨b1, by
        unfold wL_weight wX11_weight
        refine tc_checkSpoon hW hS h1 (fun _ => ?_) (fun hn => absurd c hn)
        rw [h1]
        have e : M.1 2 p1 = tz_a (M.1 165) p1 0 := ((tz_S_1 hS).2.1 p1 c.1 c.2).1
        rw [e]
        exact ⟨⟨c.1, by omega⟩, tz_B_ok hQ tz_Q_rfl⟩⟩)
      (fun Q m hq hQ => ⟨b1, by
        unfold wX12_weight
        refine tm_tells_y (tz_Q_W hW hq) h1 (by decide) (by rw [tz_Q_row hq]; exact c) ?_
        rw [tz_Q_row hq]; exact hQ⟩)
  · exact tl_RI (F := fun Qc m => (0 ≤ ts_w (y5 + 1) ∧ ts_w (y5 + 1) < (L : Int)) ∧ wL_weight p1 Qc m) (G := fun Q m => (0 ≤ ts_w (y5 + 1) ∧ ts_w (y5 + 1) < (L : Int)) ∧ wX12_weight p1 Q m) (o0 := 1) (v0 := 0) hJ hk
      (fun Qc hQ => ⟨b1, by
        unfold wL_weight wX11_weight
        refine tc_checkSpoon hW hS h1 (fun h => absurd h c) (fun _ => ?_)
        exact ⟨rfl, tz_B_no hQ tz_nz1⟩⟩)
      (fun Q m hq hQ => ⟨b1, by
        unfold wX12_weight
        exact tm_tells_n (tz_Q_W hW hq) h1 (by rw [tz_Q_row hq]; exact c) hQ⟩)
theorem tl_c14 (hJ : tz_J B M) (hB : B ≤ 800000000) (b1 : (0 ≤ ts_w (y5 + 1) ∧ ts_w (y5 + 1) < (L : Int))) (hk : tz_K B y5 k28) : wL_law_B1060 L xs k28 Q y5 M := by
  have hW := hJ.1.1
  have hS := hJ.1.2
  have h1 : ts_w (ts_xs xs (ts_w (y5 + 1))) = ts_xs xs (ts_w (y5 + 1)) := tz_xw
  unfold wL_law_B1060
  generalize ts_xs xs (ts_w (y5 + 1)) = p1 at h1 ⊢
  have e0 := (tz_W_1 hW).1
  by_cases c : 0 ≤ p1 ∧ p1 < M.1 165 0
  · exact tl_RI (F := fun Qc m => (0 ≤ ts_w (y5 + 1) ∧ ts_w (y5 + 1) < (L : Int)) ∧ wL_stance p1 Qc m) (G := fun Q m => (0 ≤ ts_w (y5 + 1) ∧ ts_w (y5 + 1) < (L : Int)) ∧ wX12_stance p1 Q m) (o0 := 0) (v0 := tz_a (M.1 165) p1 1) hJ hk
      (fun Qc hQ => ⟨b1, by
        unfold wL_stance wX11_stance
        refine tc_checkSpoon hW hS h1 (fun _ => ?_) (fun hn => absurd c hn)
        rw [h1]
        have e : M.1 3 p1 = tz_a (M.1 165) p1 1 := ((tz_S_1 hS).2.1 p1 c.1 c.2).2.1
        rw [e]
        exact ⟨⟨c.1, by omega⟩, tz_B_ok hQ tz_Q_rfl⟩⟩)
      (fun Q m hq hQ => ⟨b1, by
        unfold wX12_stance
        refine tm_tells_y (tz_Q_W hW hq) h1 (by decide) (by rw [tz_Q_row hq]; exact c) ?_
        rw [tz_Q_row hq]; exact hQ⟩)
  · exact tl_RI (F := fun Qc m => (0 ≤ ts_w (y5 + 1) ∧ ts_w (y5 + 1) < (L : Int)) ∧ wL_stance p1 Qc m) (G := fun Q m => (0 ≤ ts_w (y5 + 1) ∧ ts_w (y5 + 1) < (L : Int)) ∧ wX12_stance p1 Q m) (o0 := 1) (v0 := 0) hJ hk
      (fun Qc hQ => ⟨b1, by
        unfold wL_stance wX11_stance
        refine tc_checkSpoon hW hS h1 (fun h => absurd h c) (fun _ => ?_)
        exact ⟨rfl, tz_B_no hQ tz_nz1⟩⟩)
      (fun Q m hq hQ => ⟨b1, by
        unfold wX12_stance
        exact tm_tells_n (tz_Q_W hW hq) h1 (by rw [tz_Q_row hq]; exact c) hQ⟩)
theorem tl_c15 (hJ : tz_J B M) (hB : B ≤ 800000000) (b1 : (0 ≤ ts_w (y5 + 1) ∧ ts_w (y5 + 1) < (L : Int))) (hk : tz_K B y5 k28) : wL_law_B1116 L xs k28 Q y5 M := by
  have hW := hJ.1.1
  have hS := hJ.1.2
  have h1 : ts_w (ts_xs xs (ts_w (y5 + 1))) = ts_xs xs (ts_w (y5 + 1)) := tz_xw
  unfold wL_law_B1116
  generalize ts_xs xs (ts_w (y5 + 1)) = p1 at h1 ⊢
  have e0 := (tz_W_1 hW).1
  by_cases c : 0 ≤ p1 ∧ p1 < M.1 165 0
  · exact tl_RI (F := fun Qc m => (0 ≤ ts_w (y5 + 1) ∧ ts_w (y5 + 1) < (L : Int)) ∧ wL_sugar p1 Qc m) (G := fun Q m => (0 ≤ ts_w (y5 + 1) ∧ ts_w (y5 + 1) < (L : Int)) ∧ wX12_sugar p1 Q m) (o0 := 0) (v0 := tz_a (M.1 165) p1 2) hJ hk
      (fun Qc hQ => ⟨b1, by
        unfold wL_sugar wX11_sugar
        refine tc_checkSpoon hW hS h1 (fun _ => ?_) (fun hn => absurd c hn)
        rw [h1]
        have e : M.1 4 p1 = tz_a (M.1 165) p1 2 := ((tz_S_1 hS).2.1 p1 c.1 c.2).2.2.1
        rw [e]
        exact ⟨⟨c.1, by omega⟩, tz_B_ok hQ tz_Q_rfl⟩⟩)
      (fun Q m hq hQ => ⟨b1, by
        unfold wX12_sugar
        refine tm_tells_y (tz_Q_W hW hq) h1 (by decide) (by rw [tz_Q_row hq]; exact c) ?_
        rw [tz_Q_row hq]; exact hQ⟩)
  · exact tl_RI (F := fun Qc m => (0 ≤ ts_w (y5 + 1) ∧ ts_w (y5 + 1) < (L : Int)) ∧ wL_sugar p1 Qc m) (G := fun Q m => (0 ≤ ts_w (y5 + 1) ∧ ts_w (y5 + 1) < (L : Int)) ∧ wX12_sugar p1 Q m) (o0 := 1) (v0 := 0) hJ hk
      (fun Qc hQ => ⟨b1, by
        unfold wL_sugar wX11_sugar
        refine tc_checkSpoon hW hS h1 (fun h => absurd h c) (fun _ => ?_)
        exact ⟨rfl, tz_B_no hQ tz_nz1⟩⟩)
      (fun Q m hq hQ => ⟨b1, by
        unfold wX12_sugar
        exact tm_tells_n (tz_Q_W hW hq) h1 (by rw [tz_Q_row hq]; exact c) hQ⟩)
theorem tl_c16 (hJ : tz_J B M) (hB : B ≤ 800000000) (b1 : (0 ≤ ts_w (y5 + 1) ∧ ts_w (y5 + 1) < (L : Int))) (hk : tz_K B y5 k28) : wL_law_B1172 L xs k28 Q y5 M := by
  have hW := hJ.1.1
  have hS := hJ.1.2
  have h1 : ts_w (ts_xs xs (ts_w (y5 + 1))) = ts_xs xs (ts_w (y5 + 1)) := tz_xw
  unfold wL_law_B1172
  generalize ts_xs xs (ts_w (y5 + 1)) = p1 at h1 ⊢
  have e0 := (tz_W_1 hW).1
  by_cases c : 0 ≤ p1 ∧ p1 < M.1 165 0
  · exact tl_RI (F := fun Qc m => (0 ≤ ts_w (y5 + 1) ∧ ts_w (y5 + 1) < (L : Int)) ∧ wL_speeches p1 Qc m) (G := fun Q m => (0 ≤ ts_w (y5 + 1) ∧ ts_w (y5 + 1) < (L : Int)) ∧ wX12_speeches p1 Q m) (o0 := 0) (v0 := tz_a (M.1 165) p1 3) hJ hk
      (fun Qc hQ => ⟨b1, by
        unfold wL_speeches wX11_speeches
        refine tc_checkSpoon hW hS h1 (fun _ => ?_) (fun hn => absurd c hn)
        rw [h1]
        have e : M.1 5 p1 = tz_a (M.1 165) p1 3 := ((tz_S_1 hS).2.1 p1 c.1 c.2).2.2.2
        rw [e]
        exact ⟨⟨c.1, by omega⟩, tz_B_ok hQ tz_Q_rfl⟩⟩)
      (fun Q m hq hQ => ⟨b1, by
        unfold wX12_speeches
        refine tm_tells_y (tz_Q_W hW hq) h1 (by decide) (by rw [tz_Q_row hq]; exact c) ?_
        rw [tz_Q_row hq]; exact hQ⟩)
  · exact tl_RI (F := fun Qc m => (0 ≤ ts_w (y5 + 1) ∧ ts_w (y5 + 1) < (L : Int)) ∧ wL_speeches p1 Qc m) (G := fun Q m => (0 ≤ ts_w (y5 + 1) ∧ ts_w (y5 + 1) < (L : Int)) ∧ wX12_speeches p1 Q m) (o0 := 1) (v0 := 0) hJ hk
      (fun Qc hQ => ⟨b1, by
        unfold wL_speeches wX11_speeches
        refine tc_checkSpoon hW hS h1 (fun h => absurd h c) (fun _ => ?_)
        exact ⟨rfl, tz_B_no hQ tz_nz1⟩⟩)
      (fun Q m hq hQ => ⟨b1, by
        unfold wX12_speeches
        exact tm_tells_n (tz_Q_W hW hq) h1 (by rw [tz_Q_row hq]; exact c) hQ⟩)
/-! proposals -/
theorem tl_c18 (hJ : tz_J B M) (hB : B ≤ 800000000) (b1 : (0 ≤ ts_w (y5 + 1) ∧ ts_w (y5 + 1) < (L : Int))) (hk : tz_K B y5 k28) : wL_law_B1241 L xs k28 Q y5 M := by
  have hW := hJ.1.1
  have hS := hJ.1.2
  have h1 : ts_w (ts_xs xs (ts_w (y5 + 1))) = ts_xs xs (ts_w (y5 + 1)) := tz_xw
  unfold wL_law_B1241
  generalize ts_xs xs (ts_w (y5 + 1)) = p1 at h1 ⊢
  have e1 := (tz_W_2 hW).1
  by_cases c : 0 ≤ p1 ∧ p1 < M.1 165 1
  · exact tl_RI (F := fun Qc m => (0 ≤ ts_w (y5 + 1) ∧ ts_w (y5 + 1) < (L : Int)) ∧ wL_proposalAt p1 Qc m) (G := fun Q m => (0 ≤ ts_w (y5 + 1) ∧ ts_w (y5 + 1) < (L : Int)) ∧ wX12_proposalAt p1 Q m) (o0 := 0) (v0 := tz_pi (M.1 165) p1) hJ hk
      (fun Qc hQ => ⟨b1, by
        unfold wL_proposalAt wX11_proposalAt
        refine tc_checkPlace hW hS h1 (fun _ => ?_) (fun hn => absurd c hn)
        rw [h1]
        have e : M.1 7 p1 = tz_pi (M.1 165) p1 := ((tz_S_2 hS).2.2 p1 c.1 c.2).1
        rw [e]
        exact ⟨⟨c.1, by omega⟩, tz_B_ok hQ tz_Q_rfl⟩⟩)
      (fun Q m hq hQ => ⟨b1, by
        unfold wX12_proposalAt
        intro M1 e
        have r1 : M1.1 165 = M.1 165 := by rw [e, ts_si_ne (by decide), tz_Q_row hq]
        rw [r1]
        refine (tm_isBetween h1 tz_n0 (tz_n (by omega) (by omega))).mpr ?_
        rw [tz_in_t.mpr (by omega : 0 ≤ p1 ∧ p1 ≤ M.1 165 1 - 1), tz_i1, tz_n1]
        refine ⟨fun h => absurd h (by decide), fun _ => ?_⟩
        refine (tm_idAt c.1 (by omega)).mpr ?_
        rw [r1, e]
        exact tz_A_ok hQ⟩)
  · exact tl_RI (F := fun Qc m => (0 ≤ ts_w (y5 + 1) ∧ ts_w (y5 + 1) < (L : Int)) ∧ wL_proposalAt p1 Qc m) (G := fun Q m => (0 ≤ ts_w (y5 + 1) ∧ ts_w (y5 + 1) < (L : Int)) ∧ wX12_proposalAt p1 Q m) (o0 := 1) (v0 := 0) hJ hk
      (fun Qc hQ => ⟨b1, by
        unfold wL_proposalAt wX11_proposalAt
        refine tc_checkPlace hW hS h1 (fun h => absurd h c) (fun _ => ?_)
        exact ⟨rfl, tz_B_no hQ tz_nz1⟩⟩)
      (fun Q m hq hQ => ⟨b1, by
        unfold wX12_proposalAt
        intro M1 e
        have r1 : M1.1 165 = M.1 165 := by rw [e, ts_si_ne (by decide), tz_Q_row hq]
        rw [r1]
        refine (tm_isBetween h1 tz_n0 (tz_n (by omega) (by omega))).mpr ?_
        rw [tz_in_f.mpr (by omega : ¬ (0 ≤ p1 ∧ p1 ≤ M.1 165 1 - 1)), tz_i0, tz_n0]
        refine ⟨fun _ => ?_, fun h => absurd rfl h⟩
        rw [e]
        exact tz_A_no hQ tz_nz1⟩)
theorem tl_c19 (hJ : tz_J B M) (hB : B ≤ 800000000) (b1 : (0 ≤ ts_w (y5 + 1) ∧ ts_w (y5 + 1) < (L : Int))) (hk : tz_K B y5 k28) : wL_law_B1297 L xs k28 Q y5 M := by
  have hW := hJ.1.1
  have hS := hJ.1.2
  have h1 : ts_w (ts_xs xs (ts_w (y5 + 1))) = ts_xs xs (ts_w (y5 + 1)) := tz_xw
  unfold wL_law_B1297
  generalize ts_xs xs (ts_w (y5 + 1)) = p1 at h1 ⊢
  have e1 := (tz_W_2 hW).1
  have hP := tz_S_2 hS
  have hL : tz_L (M.1 165) := tz_L_of (by omega) hW
  rcases tz_pl_rng (v := p1) e1.2 with c | c
  · exact tl_RI (F := fun Qc m => (0 ≤ ts_w (y5 + 1) ∧ ts_w (y5 + 1) < (L : Int)) ∧ wL_position p1 Qc m) (G := fun Q m => (0 ≤ ts_w (y5 + 1) ∧ ts_w (y5 + 1) < (L : Int)) ∧ wX12_position p1 Q m) (o0 := 1) (v0 := 0) hJ hk
      (fun Qc hQ => ⟨b1, by
        unfold wL_position wX11_position
        refine tc_checkOnList hW hB hS h1 (fun h _ => absurd c (by omega)) (fun _ => ?_)
        exact ⟨rfl, tz_B_no hQ tz_nz1⟩⟩)
      (fun Q m hq hQ => ⟨b1, by
        unfold wX12_position
        intro M1 e
        have r1 : M1.1 165 = M.1 165 := by rw [e, ts_si_ne (by decide), tz_Q_row hq]
        refine (tm_place (by rw [r1]; exact hL) h1).mpr ?_
        rw [r1]
        rw [c, tz_nm]
        refine ⟨fun h => absurd h (by decide), fun _ => ?_⟩
        rw [e]
        exact tz_A_no hQ tz_nz1⟩)
  · exact tl_RI (F := fun Qc m => (0 ≤ ts_w (y5 + 1) ∧ ts_w (y5 + 1) < (L : Int)) ∧ wL_position p1 Qc m) (G := fun Q m => (0 ≤ ts_w (y5 + 1) ∧ ts_w (y5 + 1) < (L : Int)) ∧ wX12_position p1 Q m) (o0 := 0) (v0 := tz_pp (M.1 165) (tz_pl (M.1 165) p1)) hJ hk
      (fun Qc hQ => ⟨b1, by
        unfold wL_position wX11_position
        refine tc_checkOnList hW hB hS h1 (fun _ _ => ?_) (fun hn => absurd hn (by omega))
        refine (tc_positionOf (b := 0) hP.1 hL (fun i h4 h5 => (hP.2.2 i h4 h5).1) (fun i h4 h5 => (hP.2.2 i h4 h5).2)).mpr ?_
        have e : tz_po (M.1 165) (ts_w p1) = tz_pp (M.1 165) (tz_pl (M.1 165) p1) := by rw [h1]; exact if_neg (by omega)
        rw [e]
        exact tz_B_ok hQ tz_Q_rfl⟩)
      (fun Q m hq hQ => ⟨b1, by
        unfold wX12_position
        intro M1 e
        have r1 : M1.1 165 = M.1 165 := by rw [e, ts_si_ne (by decide), tz_Q_row hq]
        refine (tm_place (by rw [r1]; exact hL) h1).mpr ?_
        rw [r1]
        rw [tz_n (x := tz_pl (M.1 165) p1) (by omega) (by omega)]
        refine ⟨fun _ => ?_, fun h => absurd c.1 h⟩
        refine (tm_place (by rw [r1]; exact hL) h1).mpr ?_
        rw [r1]
        refine (tm_positionAt c.1 (by omega)).mpr ?_
        rw [r1, e]
        exact tz_A_ok hQ⟩)
/-! motions -/
theorem tz_lt_rng : (97 ≤ tz_lt r ∧ tz_lt r ≤ 112) ∧ ts_i2c (tz_lt r) = tz_lt r := by
  unfold tz_lt
  split
  · decide
  split
  · decide
  split
  · decide
  split
  · decide
  · decide
theorem tz_K5 (h : 0 ≤ r ∧ r ≤ 4) (hQ : Q (tz_lt r) M) : wJ0_charAt_5068e 12 r Q M := by
  have cs : r = 0 ∨ r = 1 ∨ r = 2 ∨ r = 3 ∨ r = 4 := by omega
  rcases cs with e | e | e | e | e <;> subst e
  · exact (tc_sAt (q := 12) (n := 5) (j := 0) (c := 109) (by decide) (by decide) (by decide) (by decide) (by decide)).mpr hQ
  · exact (tc_sAt (q := 12) (n := 5) (j := 1) (c := 97) (by decide) (by decide) (by decide) (by decide) (by decide)).mpr hQ
  · exact (tc_sAt (q := 12) (n := 5) (j := 2) (c := 112) (by decide) (by decide) (by decide) (by decide) (by decide)).mpr hQ
  · exact (tc_sAt (q := 12) (n := 5) (j := 3) (c := 99) (by decide) (by decide) (by decide) (by decide) (by decide)).mpr hQ
  · exact (tc_sAt (q := 12) (n := 5) (j := 4) (c := 106) (by decide) (by decide) (by decide) (by decide) (by decide)).mpr hQ
theorem tc_letterAt (hW : tz_W B w) (hS : tz_S 0 M w) (h1 : ts_w p = p) (c : 0 ≤ p ∧ p < w 3) (hQ : Q (tz_lt (tz_mo w p)) M) : wX10_letterAt 0 p Q M := by
  have hW3 := tz_W_3 hW
  have g3 := hW3.1
  have hP := tz_S_3 hS
  have hr := hW3.2.2.1 p c.1 c.2
  have hl := tz_lt_rng (r := tz_mo w p)
  unfold wX10_letterAt
  refine (tc_rankAt (b := 0) hP.1 hW3.1 hP.2.2.2.2 h1).mpr ?_
  rw [if_pos c]
  intro x3 e3
  rw [e3]
  refine (tc_isBetween (tz_n (by omega) (by omega)) tz_n0 tz_n4).mpr ?_
  rw [tz_in_t.mpr hr, tz_i1, tz_n1]
  refine ⟨fun h => absurd h (by decide), fun _ => ?_⟩
  refine tz_K5 hr ?_
  refine ⟨?_, hQ⟩
  rw [tz_n (by omega) (by omega)]
  omega
theorem tm_signOf (h1 : ts_w r = r) (hQ : Q (tz_lt r) M) : wX12_signOf r Q M := by
  unfold wX12_signOf
  rw [h1]
  unfold tz_lt at hQ
  refine ⟨fun e => by rw [if_pos e] at hQ; exact hQ, fun e => ?_⟩
  rw [if_neg e] at hQ
  refine ⟨fun e => by rw [if_pos e] at hQ; exact hQ, fun e => ?_⟩
  rw [if_neg e] at hQ
  refine ⟨fun e => by rw [if_pos e] at hQ; exact hQ, fun e => ?_⟩
  rw [if_neg e] at hQ
  refine ⟨fun e => by rw [if_pos e] at hQ; exact hQ, fun e => ?_⟩
  rw [if_neg e] at hQ
  exact hQ
theorem tl_c21 (hJ : tz_J B M) (hB : B ≤ 800000000) (b1 : (0 ≤ ts_w (y5 + 1) ∧ ts_w (y5 + 1) < (L : Int))) (hk : tz_K B y5 k28) : wL_law_B1366 L xs k28 Q y5 M := by
  have hW := hJ.1.1
  have hS := hJ.1.2
  have h1 : ts_w (ts_xs xs (ts_w (y5 + 1))) = ts_xs xs (ts_w (y5 + 1)) := tz_xw
  unfold wL_law_B1366
  generalize ts_xs xs (ts_w (y5 + 1)) = p1 at h1 ⊢
  have hW3 := tz_W_3 hW
  have g3 := hW3.1
  have e9 : M.1 9 1 = M.1 165 3 := (tz_S_3 hS).1
  by_cases c : 0 ≤ p1 ∧ p1 < M.1 165 3
  · exact tl_RI (F := fun Qc m => (0 ≤ ts_w (y5 + 1) ∧ ts_w (y5 + 1) < (L : Int)) ∧ wL_motionKind p1 Qc m) (G := fun Q m => (0 ≤ ts_w (y5 + 1) ∧ ts_w (y5 + 1) < (L : Int)) ∧ wX12_motionKind p1 Q m) (o0 := 0) (v0 := tz_lt (tz_mo (M.1 165) p1)) hJ hk
      (fun Qc hQ => ⟨b1, by
        unfold wL_motionKind wX11_motionKind
        rw [e9, h1, tz_n (x := M.1 165 3) (by omega) (by omega)]
        refine ⟨fun h => absurd h (by omega), fun _ => ⟨fun _ => ?_, fun h => absurd c.2 h⟩⟩
        have hl := tz_lt_rng (r := tz_mo (M.1 165) p1)
        refine tc_letterAt hW hS h1 c ⟨?_, tz_B_ok hQ tz_Q_rfl⟩
        rw [tz_n (by omega) (by omega)]
        omega⟩)
      (fun Q m hq hQ => ⟨b1, by
        unfold wX12_motionKind
        intro M1 e
        have r1 : M1.1 165 = M.1 165 := by rw [e, ts_si_ne (by decide), tz_Q_row hq]
        rw [r1]
        refine (tm_isBetween h1 tz_n0 (tz_n (by omega) (by omega))).mpr ?_
        rw [tz_in_t.mpr (by omega : 0 ≤ p1 ∧ p1 ≤ M.1 165 3 - 1), tz_i1, tz_n1]
        refine ⟨fun h => absurd h (by decide), fun _ => ?_⟩
        rw [tz_n (x := 55 + p1) (by omega) (by omega)]
        refine ⟨by omega, ?_⟩
        rw [r1]
        have hr := hW3.2.2.1 p1 c.1 c.2
        have hl := tz_lt_rng (r := tz_mo (M.1 165) p1)
        refine tm_signOf (r := tz_mo (M.1 165) p1) (tz_n (by omega) (by omega)) ?_
        rw [hl.2, tz_n (x := tz_lt (tz_mo (M.1 165) p1)) (by omega) (by omega)]
        refine ⟨by omega, ?_⟩
        rw [e]
        exact tz_A_ok hQ⟩)
  · exact tl_RI (F := fun Qc m => (0 ≤ ts_w (y5 + 1) ∧ ts_w (y5 + 1) < (L : Int)) ∧ wL_motionKind p1 Qc m) (G := fun Q m => (0 ≤ ts_w (y5 + 1) ∧ ts_w (y5 + 1) < (L : Int)) ∧ wX12_motionKind p1 Q m) (o0 := 1) (v0 := 0) hJ hk
      (fun Qc hQ => ⟨b1, by
        unfold wL_motionKind wX11_motionKind
        rw [e9, h1, tz_n (x := M.1 165 3) (by omega) (by omega)]
        have hx := tz_B_no hQ tz_nz1
        refine ⟨fun _ => ⟨rfl, hx⟩, fun h => ⟨fun h2 => absurd ⟨by omega, h2⟩ c, fun _ => ⟨rfl, hx⟩⟩⟩⟩)
      (fun Q m hq hQ => ⟨b1, by
        unfold wX12_motionKind
        intro M1 e
        have r1 : M1.1 165 = M.1 165 := by rw [e, ts_si_ne (by decide), tz_Q_row hq]
        rw [r1]
        refine (tm_isBetween h1 tz_n0 (tz_n (by omega) (by omega))).mpr ?_
        rw [tz_in_f.mpr (by omega : ¬ (0 ≤ p1 ∧ p1 ≤ M.1 165 3 - 1)), tz_i0, tz_n0]
        refine ⟨fun _ => ?_, fun h => absurd rfl h⟩
        unfold wX12_fails
        intro M4 e4
        rw [e4, e, show ts_i2c 0 = 0 by decide, tz_n0]
        exact ⟨by decide, tz_A_no0 hQ tz_nz1⟩⟩)
theorem tc_holds (hW : tz_W B w) (hS : tz_S 0 M w) (hk : 0 ≤ k ∧ k ≤ 4) (hy : ∀ j : Int, 0 ≤ j → j < w 3 → tz_mo w j = k → Q 1 M) (hn : (∀ j : Int, 0 ≤ j → j < w 3 → tz_mo w j ≠ k) → Q 0 M) : wX10_holds 0 k Q M := by
  have hW3 := tz_W_3 hW
  have g3 := hW3.1
  have hP := tz_S_3 hS
  have e9 : M.1 (0 + 9) 1 = w 3 := hP.1
  simp only [wX10_holds, forall_eq]
  refine tz_ex2 (fun d x1 x2 m => x1 = k ∧ 0 ≤ x2 ∧ x2 ≤ w 3 ∧ m = M ∧ d = (w 3 - x2).toNat ∧ ∀ j : Int, 0 ≤ j → j < x2 → tz_mo w j ≠ k) (w 3).toNat ⟨rfl, by omega, by omega, rfl, by omega, fun j h1 h2 => absurd h1 (by omega)⟩ ?_
  rintro k0 d x1 x2 m ⟨rfl, i1, i2, rfl, rfl, i3⟩ hk0
  simp only [wX10_holds_L2, forall_eq]
  rw [e9, tz_n (x := x2) (by omega) (by omega), tz_n (x := w 3) (by omega) (by omega)]
  by_cases c1 : w 3 ≤ x2
  · rw [tz_y c1]
    exact hn (fun j h1 h2 => i3 j h1 (by omega))
  · rw [tz_x c1]
    have e10 : m.1 (0 + 10) x2 = tz_mo w x2 := hP.2.2.2.2 x2 i1 (by omega)
    have hr := hW3.2.2.1 x2 i1 (by omega)
    rw [e10, tz_n (x := tz_mo w x2) (by omega) (by omega), tz_n (x := x1) (by omega) (by omega)]
    refine ⟨by omega, fun c2 => ?_, fun c2 => hy x2 i1 (by omega) c2⟩
    refine hk0 _ _ _ _ (by omega) ⟨rfl, by omega, by omega, rfl, rfl, fun j h1 h2 => ?_⟩
    by_cases c3 : j = x2
    · rw [c3]; exact c2
    · exact i3 j h1 (by omega)
theorem tm_lies (hW : tz_W B (M.1 165)) (hk : 0 ≤ k ∧ k ≤ 4) (hy : ∀ j : Int, 0 ≤ j → j < M.1 165 3 → tz_mo (M.1 165) j = k → Q 1 M) (hn : (∀ j : Int, 0 ≤ j → j < M.1 165 3 → tz_mo (M.1 165) j ≠ k) → Q 0 M) : wX12_lies k Q M := by
  have hW3 := tz_W_3 hW
  have g3 := hW3.1
  simp only [wX12_lies, forall_eq]
  refine tz_ex2 (fun d x1 x2 m => x1 = k ∧ 0 ≤ x2 ∧ x2 ≤ M.1 165 3 ∧ m = M ∧ d = (M.1 165 3 - x2).toNat ∧ ∀ j : Int, 0 ≤ j → j < x2 → tz_mo (M.1 165) j ≠ k) (M.1 165 3).toNat ⟨rfl, by omega, by omega, rfl, by omega, fun j h1 h2 => absurd h1 (by omega)⟩ ?_
  rintro k0 d x1 x2 m ⟨rfl, i1, i2, rfl, rfl, i3⟩ hk0
  simp only [wX12_lies_L2, forall_eq]
  rw [tz_n (x := x2) (by omega) (by omega), tz_n (x := m.1 165 3) (by omega) (by omega), tz_n (x := 55 + x2) (by omega) (by omega)]
  by_cases c1 : m.1 165 3 ≤ x2
  · rw [tz_y c1]
    exact hn (fun j h1 h2 => i3 j h1 (by omega))
  · rw [tz_x c1]
    have hr := hW3.2.2.1 x2 i1 (by omega)
    have e10 : m.1 165 (55 + x2) = tz_mo (m.1 165) x2 := rfl
    rw [e10, tz_n (x := tz_mo (m.1 165) x2) (by omega) (by omega), tz_n (x := x1) (by omega) (by omega)]
    refine ⟨by omega, fun c2 => ?_, fun c2 => hy x2 i1 (by omega) c2⟩
    refine hk0 _ _ _ _ (by omega) ⟨rfl, by omega, by omega, rfl, rfl, fun j h1 h2 => ?_⟩
    by_cases c3 : j = x2
    · rw [c3]; exact c2
    · exact i3 j h1 (by omega)
theorem tl_c22 (hJ : tz_J B M) (hB : B ≤ 800000000) (hk : tz_K B y5 k28) : wL_law_B1422 L xs k28 Q y5 M := by
  have hW := hJ.1.1
  have hS := hJ.1.2
  unfold wL_law_B1422
  have hW3 := tz_W_3 hW
  have g3 := hW3.1
  have hP := tz_S_3 hS
  by_cases c : ∃ j : Int, 0 ≤ j ∧ j < M.1 165 3 ∧ tz_mo (M.1 165) j = 1
  · exact tl_RI (F := fun Qc m => wL_amendment Qc m) (G := fun Q m => wX12_amendment Q m) (o0 := 0) (v0 := M.1 165 61) hJ hk
      (fun Qc hQ => by
        unfold wL_amendment wX11_amendment
        refine tc_holds hW hS (by decide) (fun j h4 h5 h6 => ?_) (fun hn => absurd c (fun ⟨j, h4, h5, h6⟩ => hn j h4 h5 h6))
        rw [tz_n1]
        refine ⟨fun _ => ?_, fun h => absurd h (by decide)⟩
        have e : M.1 9 3 = M.1 165 61 := hP.2.2.1 j h4 h5 h6
        rw [e]
        exact tz_B_ok hQ tz_Q_rfl)
      (fun Q m hq hQ => by
        unfold wX12_amendment
        intro M1 e
        have r1 : M1.1 165 = M.1 165 := by rw [e, ts_si_ne (by decide), tz_Q_row hq]
        refine tm_lies (B := B) (by rw [r1]; exact hW) (by decide) (fun j h4 h5 h6 => ?_) (fun hn => ?_)
        · rw [tz_n1, r1, e]
          exact ⟨fun h => absurd h (by decide), fun _ => tz_A_ok hQ⟩
        · rw [r1] at hn
          exact absurd c (fun ⟨j, h4, h5, h6⟩ => hn j h4 h5 h6))
  · exact tl_RI (F := fun Qc m => wL_amendment Qc m) (G := fun Q m => wX12_amendment Q m) (o0 := 1) (v0 := 0) hJ hk
      (fun Qc hQ => by
        unfold wL_amendment wX11_amendment
        refine tc_holds hW hS (by decide) (fun j h4 h5 h6 => absurd ⟨j, h4, h5, h6⟩ c) (fun _ => ?_)
        rw [tz_n0]
        exact ⟨fun h => absurd rfl h, fun _ => ⟨rfl, tz_B_no hQ tz_nz1⟩⟩)
      (fun Q m hq hQ => by
        unfold wX12_amendment
        intro M1 e
        have r1 : M1.1 165 = M.1 165 := by rw [e, ts_si_ne (by decide), tz_Q_row hq]
        refine tm_lies (B := B) (by rw [r1]; exact hW) (by decide) (fun j h4 h5 h6 => ?_) (fun hn => ?_)
        · rw [r1] at h5 h6
          exact absurd ⟨j, h4, h5, h6⟩ c
        · rw [tz_n0, e]
          exact ⟨fun _ => tz_A_no hQ tz_nz1, fun h => absurd rfl h⟩)
theorem tl_c23 (hJ : tz_J B M) (hB : B ≤ 800000000) (hk : tz_K B y5 k28) : wL_law_B1466 L xs k28 Q y5 M := by
  have hW := hJ.1.1
  have hS := hJ.1.2
  unfold wL_law_B1466
  have hW3 := tz_W_3 hW
  have g3 := hW3.1
  have hP := tz_S_3 hS
  by_cases c : ∃ j : Int, 0 ≤ j ∧ j < M.1 165 3 ∧ tz_mo (M.1 165) j = 0
  · exact tl_RI (F := fun Qc m => wL_mainProposal Qc m) (G := fun Q m => wX12_mainProposal Q m) (o0 := 0) (v0 := M.1 165 60) hJ hk
      (fun Qc hQ => by
        unfold wL_mainProposal wX11_mainProposal
        refine tc_holds hW hS (by decide) (fun j h4 h5 h6 => ?_) (fun hn => absurd c (fun ⟨j, h4, h5, h6⟩ => hn j h4 h5 h6))
        rw [tz_n1]
        refine ⟨fun _ => ?_, fun h => absurd h (by decide)⟩
        have z0 : tz_mo (M.1 165) 0 = 0 := by
          by_cases c0 : j = 0
          · rw [c0] at h6; exact h6
          · have g1 := hW3.2.2.2.1 0 j (by omega) (by omega) h5
            have g2 := hW3.2.2.1 0 (by omega) (by omega)
            omega
        have e : M.1 9 2 = M.1 165 60 := hP.2.1 (by omega) z0
        rw [e]
        exact tz_B_ok hQ tz_Q_rfl)
      (fun Q m hq hQ => by
        unfold wX12_mainProposal
        intro M1 e
        have r1 : M1.1 165 = M.1 165 := by rw [e, ts_si_ne (by decide), tz_Q_row hq]
        refine tm_lies (B := B) (by rw [r1]; exact hW) (by decide) (fun j h4 h5 h6 => ?_) (fun hn => ?_)
        · rw [tz_n1, r1, e]
          exact ⟨fun h => absurd h (by decide), fun _ => tz_A_ok hQ⟩
        · rw [r1] at hn
          exact absurd c (fun ⟨j, h4, h5, h6⟩ => hn j h4 h5 h6))
  · exact tl_RI (F := fun Qc m => wL_mainProposal Qc m) (G := fun Q m => wX12_mainProposal Q m) (o0 := 1) (v0 := 0) hJ hk
      (fun Qc hQ => by
        unfold wL_mainProposal wX11_mainProposal
        refine tc_holds hW hS (by decide) (fun j h4 h5 h6 => absurd ⟨j, h4, h5, h6⟩ c) (fun _ => ?_)
        rw [tz_n0]
        exact ⟨fun h => absurd rfl h, fun _ => ⟨rfl, tz_B_no hQ tz_nz1⟩⟩)
      (fun Q m hq hQ => by
        unfold wX12_mainProposal
        intro M1 e
        have r1 : M1.1 165 = M.1 165 := by rw [e, ts_si_ne (by decide), tz_Q_row hq]
        refine tm_lies (B := B) (by rw [r1]; exact hW) (by decide) (fun j h4 h5 h6 => ?_) (fun hn => ?_)
        · rw [r1] at h5 h6
          exact absurd ⟨j, h4, h5, h6⟩ c
        · rw [tz_n0, e]
          exact ⟨fun _ => tz_A_no hQ tz_nz1, fun h => absurd rfl h⟩)
/-! votes -/
theorem tl_c26 (hJ : tz_J B M) (hB : B ≤ 800000000) (hk : tz_K B y5 k28) : wL_law_B1588 L xs k28 Q y5 M := by
  have hW := hJ.1.1
  have hS := hJ.1.2
  unfold wL_law_B1588
  have hW3 := tz_W_3 hW
  have g3 := hW3.1
  have hL : tz_L (M.1 165) := tz_L_of (by omega) hW
  by_cases c : M.1 165 3 = 0
  · exact tl_RI (F := fun Qc m => wL_yesVotes Qc m) (G := fun Q m => wX12_yesVotes Q m) (o0 := 1) (v0 := 0) hJ hk
      (fun Qc hQ => by
        unfold wL_yesVotes wX11_yesVotes
        exact tc_checkMotion hW hS (fun h => absurd c h) (fun _ => ⟨rfl, tz_B_no hQ tz_nz1⟩))
      (fun Q m hq hQ => by
        unfold wX12_yesVotes
        intro M1 e
        have r1 : M1.1 165 = M.1 165 := by rw [e, ts_si_ne (by decide), tz_Q_row hq]
        rw [r1, tz_n (x := M.1 165 3) (by omega) (by omega)]
        refine ⟨fun h => absurd c h, fun _ => ?_⟩
        rw [e]
        exact tz_A_no hQ tz_nz1)
  · exact tl_RI (F := fun Qc m => wL_yesVotes Qc m) (G := fun Q m => wX12_yesVotes Q m) (o0 := 0) (v0 := tz_yes (M.1 165)) hJ hk
      (fun Qc hQ => by
        unfold wL_yesVotes wX11_yesVotes
        refine tc_checkMotion hW hS (fun _ => ?_) (fun h => absurd h c)
        exact (tc_yesWeight hW hS (by omega) c).mpr (tz_B_ok hQ tz_Q_rfl))
      (fun Q m hq hQ => by
        unfold wX12_yesVotes
        intro M1 e
        have r1 : M1.1 165 = M.1 165 := by rw [e, ts_si_ne (by decide), tz_Q_row hq]
        rw [r1, tz_n (x := M.1 165 3) (by omega) (by omega)]
        refine ⟨fun _ => ?_, fun h => absurd h c⟩
        refine (tm_yes (B := B) (by omega) (by rw [r1]; exact hW) (by rw [r1]; exact c)).mpr ?_
        rw [r1, e]
        exact tz_A_ok hQ)
theorem tl_c27 (hJ : tz_J B M) (hB : B ≤ 800000000) (hk : tz_K B y5 k28) : wL_law_B1632 L xs k28 Q y5 M := by
  have hW := hJ.1.1
  have hS := hJ.1.2
  unfold wL_law_B1632
  have hW3 := tz_W_3 hW
  have g3 := hW3.1
  have hL : tz_L (M.1 165) := tz_L_of (by omega) hW
  by_cases c : M.1 165 3 = 0
  · exact tl_RB (F := fun Qc m => wL_wouldPass Qc m) (G := fun Q m => wX12_wouldPass Q m) (o0 := 1) (v0 := 0) hJ hk (Or.inl rfl)
      (fun Qc hQ => by
        unfold wL_wouldPass wX11_wouldPass
        exact tc_checkMotion hW hS (fun h => absurd c h) (fun _ => ⟨rfl, tz_B_no hQ tz_nz1⟩))
      (fun Q m hq hQ => by
        unfold wX12_wouldPass
        intro M1 e
        have r1 : M1.1 165 = M.1 165 := by rw [e, ts_si_ne (by decide), tz_Q_row hq]
        rw [r1, tz_n (x := M.1 165 3) (by omega) (by omega)]
        refine ⟨fun h => absurd c h, fun _ => ?_⟩
        rw [e]
        exact tz_A_nof hQ tz_nz1)
  · exact tl_RB (F := fun Qc m => wL_wouldPass Qc m) (G := fun Q m => wX12_wouldPass Q m) (o0 := 0) (v0 := tz_i (tz_ado (M.1 165))) hJ hk (of_eq_true tz_i01)
      (fun Qc hQ => by
        unfold wL_wouldPass wX11_wouldPass
        refine tc_checkMotion hW hS (fun _ => ?_) (fun h => absurd h c)
        refine (tc_yesWeight hW hS (by omega) c).mpr ?_
        refine (tc_isEnough hW hS c).mpr ?_
        exact ⟨tz_bw01 (of_eq_true tz_i01), tz_B_okb hQ (of_eq_true tz_i01) tz_Q_rfl⟩)
      (fun Q m hq hQ => by
        unfold wX12_wouldPass
        intro M1 e
        have r1 : M1.1 165 = M.1 165 := by rw [e, ts_si_ne (by decide), tz_Q_row hq]
        rw [r1, tz_n (x := M.1 165 3) (by omega) (by omega)]
        refine ⟨fun _ => ?_, fun h => absurd h c⟩
        refine (tm_isAdopted (B := B) (by omega) (by rw [r1]; exact hW) (by rw [r1]; exact c)).mpr ?_
        rw [r1, e]
        exact ⟨tz_bw01 (of_eq_true tz_i01), tz_A_ok hQ⟩)
theorem tl_c28 (hJ : tz_J B M) (hB : B ≤ 800000000) (b1 : (0 ≤ ts_w (y5 + 1) ∧ ts_w (y5 + 1) < (L : Int))) (hk : tz_K B y5 k28) : wL_law_B1683 L xs k28 Q y5 M := by
  have hW := hJ.1.1
  have hS := hJ.1.2
  have h1 : ts_w (ts_xs xs (ts_w (y5 + 1))) = ts_xs xs (ts_w (y5 + 1)) := tz_xw
  unfold wL_law_B1683
  generalize ts_xs xs (ts_w (y5 + 1)) = p1 at h1 ⊢
  have hW3 := tz_W_3 hW
  have g3 := hW3.1
  have e0 := (tz_W_1 hW).1
  have hL : tz_L (M.1 165) := tz_L_of (by omega) hW
  by_cases c : 0 ≤ p1 ∧ p1 < M.1 165 0
  · by_cases c3 : M.1 165 3 = 0
    · exact tl_RB (F := fun Qc m => (0 ≤ ts_w (y5 + 1) ∧ ts_w (y5 + 1) < (L : Int)) ∧ wL_votesYes p1 Qc m) (G := fun Q m => (0 ≤ ts_w (y5 + 1) ∧ ts_w (y5 + 1) < (L : Int)) ∧ wX12_votesYes p1 Q m) (o0 := 2) (v0 := 0) hJ hk (Or.inl rfl)
        (fun Qc hQ => ⟨b1, by
          unfold wL_votesYes wX11_votesYes
          refine tc_checkSpoon hW hS h1 (fun _ => ?_) (fun h => absurd c h)
          exact tc_checkMotion hW hS (fun h => absurd c3 h) (fun _ => Or.inr ⟨rfl, tz_B_no hQ tz_nz2⟩)⟩)
        (fun Q m hq hQ => ⟨b1, by
          unfold wX12_votesYes
          intro M1 e
          have r1 : M1.1 165 = M.1 165 := by rw [e, ts_si_ne (by decide), tz_Q_row hq]
          refine (tm_isSpoon h1 (by rw [r1]; omega) (by rw [r1]; omega)).mpr ?_
          rw [r1, tz_in_t.mpr (by omega : 0 ≤ p1 ∧ p1 ≤ M.1 165 0 - 1), tz_i1, tz_n1, tz_n (x := M.1 165 3) (by omega) (by omega)]
          refine ⟨fun _ => ?_, fun h => absurd h (by decide)⟩
          refine ⟨fun h => absurd c3 h, fun _ => ?_⟩
          rw [e]
          exact tz_A_nof hQ tz_nz2⟩)
    · exact tl_RB (F := fun Qc m => (0 ≤ ts_w (y5 + 1) ∧ ts_w (y5 + 1) < (L : Int)) ∧ wL_votesYes p1 Qc m) (G := fun Q m => (0 ≤ ts_w (y5 + 1) ∧ ts_w (y5 + 1) < (L : Int)) ∧ wX12_votesYes p1 Q m) (o0 := 0) (v0 := tz_i (tz_for (M.1 165) p1)) hJ hk (of_eq_true tz_i01)
        (fun Qc hQ => ⟨b1, by
          unfold wL_votesYes wX11_votesYes
          refine tc_checkSpoon hW hS h1 (fun _ => ?_) (fun h => absurd c h)
          refine tc_checkMotion hW hS (fun _ => ?_) (fun h => absurd h c3)
          refine (tc_mainPosition hS hL).mpr ?_
          have ht := tz_top_pos hW c3
          refine (tc_saysYes hW hS (by omega) c3 c.1 c.2 (tz_po_rng hL) (fun h => tc_po hW (by omega) hS ht.1 (by omega))).mpr ?_
          exact ⟨tz_bw01 (of_eq_true tz_i01), tz_B_okb hQ (of_eq_true tz_i01) tz_Q_rfl⟩⟩)
        (fun Q m hq hQ => ⟨b1, by
          unfold wX12_votesYes
          intro M1 e
          have r1 : M1.1 165 = M.1 165 := by rw [e, ts_si_ne (by decide), tz_Q_row hq]
          refine (tm_isSpoon h1 (by rw [r1]; omega) (by rw [r1]; omega)).mpr ?_
          rw [r1, tz_in_t.mpr (by omega : 0 ≤ p1 ∧ p1 ≤ M.1 165 0 - 1), tz_i1, tz_n1, tz_n (x := M.1 165 3) (by omega) (by omega)]
          refine ⟨fun _ => ?_, fun h => absurd h (by decide)⟩
          refine ⟨fun _ => ?_, fun h => absurd h c3⟩
          refine (tm_isFor (B := B) (by omega) (by rw [r1]; exact hW) (by rw [r1]; exact c3) c.1 (by rw [r1]; exact c.2)).mpr ?_
          rw [r1, e]
          exact ⟨tz_bw01 (of_eq_true tz_i01), tz_A_ok hQ⟩⟩)
  · exact tl_RB (F := fun Qc m => (0 ≤ ts_w (y5 + 1) ∧ ts_w (y5 + 1) < (L : Int)) ∧ wL_votesYes p1 Qc m) (G := fun Q m => (0 ≤ ts_w (y5 + 1) ∧ ts_w (y5 + 1) < (L : Int)) ∧ wX12_votesYes p1 Q m) (o0 := 1) (v0 := 0) hJ hk (Or.inl rfl)
      (fun Qc hQ => ⟨b1, by
        unfold wL_votesYes wX11_votesYes
        exact tc_checkSpoon hW hS h1 (fun h => absurd h c) (fun _ => Or.inl ⟨rfl, tz_B_no hQ tz_nz1⟩)⟩)
      (fun Q m hq hQ => ⟨b1, by
        unfold wX12_votesYes
        intro M1 e
        have r1 : M1.1 165 = M.1 165 := by rw [e, ts_si_ne (by decide), tz_Q_row hq]
        refine (tm_isSpoon h1 (by rw [r1]; omega) (by rw [r1]; omega)).mpr ?_
        rw [r1, tz_in_f.mpr (by omega : ¬ (0 ≤ p1 ∧ p1 ≤ M.1 165 0 - 1)), tz_i0, tz_n0]
        refine ⟨fun h => absurd rfl h, fun _ => ?_⟩
        rw [e]
        exact tz_A_nof hQ tz_nz1⟩)
end TLR
