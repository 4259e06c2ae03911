/-! ===== the law's rounds: the twelve commands ===== -/
section TLC
variable {B n y5 o p1 p2 p3 : Int} {L : Nat} {xs : Nat → Int32} {k28 : Int → ts_M → Prop} {Q Qc : Int → ts_M → Prop} {M m : ts_M} {w : Int → Int} {h : Nat → Int → Int}
theorem tcl_0 (hW : tz_W B w) (hS : tz_S 0 M w) (hH : tz_H B M n h) (hB : B ≤ 900000000) (h1 : ts_w p1 = p1) (h2 : ts_w p2 = p2) (hQ : ∀ (m : ts_M) (o : Int), tz_R1 B M n h w (tz_not w 0 p1 p2 0) (tz_res w 0 p1 p2 0) (tz_do w 0 p1 p2 0) (tz_q0 (tz_r0 w p1 p2)) m o → Qc o m) : wL_addSpoon p1 p2 Qc M := by
  unfold wL_addSpoon wX11_addSpoon
  refine tc_change hW hS hH hB ⟨by decide, by decide⟩ h1 h2 tz_n0 (fun hz m f s hh => ?_) (fun hz => ?_)
  · intro M5 e5
    exact hQ M5 0 (Or.inl ⟨hz, rfl, m, f, s, hh, e5⟩)
  · have hq := hQ M _ (Or.inr ⟨hz, rfl, rfl⟩)
    have e : tz_not w 0 p1 p2 0 = tz_r0 w p1 p2 := rfl
    rw [e] at hz ⊢
    rcases tz_r0_or (w := w) (p1 := p1) (p2 := p2) with c | c | c <;> rw [c] at hz hq ⊢
    · exact absurd rfl hz
    · exact Or.inl ⟨rfl, hq⟩
    · exact Or.inr (⟨rfl, hq⟩)
theorem tml_0 (hJ : tz_J B M) (hB0 : 0 ≤ B) (hB : B ≤ 800000000) (hw : M.1 165 = w) (hHM : tz_HM M n h) (h1 : ts_w p1 = p1) (h2 : ts_w p2 = p2) (hR : tz_R1 B M n h w (tz_not w 0 p1 p2 0) (tz_res w 0 p1 p2 0) (tz_do w 0 p1 p2 0) (tz_q0 (tz_r0 w p1 p2)) m o) (hQ : ∀ (x : Int) (m' : ts_M), tz_J (B + 108) m' → m'.1 164 0 = o → (ts_w o = 0 → m'.2.1 175 0 = ts_L x) → Q x m') : wX12_addSpoon p1 p2 Q m := by
  have hW : tz_W B w := by rw [← hw]; exact hJ.1.1
  have hqz : tz_q0 (tz_r0 w p1 p2) = 0 ↔ tz_not w 0 p1 p2 0 = 0 := by
    show tz_q0 (tz_r0 w p1 p2) = 0 ↔ tz_r0 w p1 p2 = 0
    rcases tz_r0_or (w := w) (p1 := p1) (p2 := p2) with c | c | c <;> rw [c] <;> decide
  have hqw : ts_w (tz_q0 (tz_r0 w p1 p2)) = tz_q0 (tz_r0 w p1 p2) := by
    rcases tz_r0_or (w := w) (p1 := p1) (p2 := p2) with c | c | c <;> rw [c] <;> exact tz_n (by decide) (by decide)
  unfold wX12_addSpoon
  exact tl_ref (c := 0) (N := wX12_notSpoon p1 p2) (D := wX12_addsSpoon p1 p2) hJ hB0 hB hw hHM ⟨by decide, by decide⟩ hqw hqz
    (fun Q m' e hq => (tm_not0 (B := B) (by rw [e]; exact hW) h1 h2).mpr (by rw [e]; exact hq))
    (fun hz Q m' e hQ => tm_d0 (p3 := 0) (B := B) (by rw [e]; exact hW) (by rw [e]; exact hz) (fun m'' f e2 => by rw [e]; exact hQ m'' f (by rw [e2, e])))
    hR hQ
theorem tl_c0 (hJ : tz_J B M) (hB0 : 0 ≤ B) (hB : B ≤ 800000000) (b1 : (0 ≤ ts_w (y5 + 1) ∧ ts_w (y5 + 1) < (L : Int))) (b2 : (0 ≤ ts_w (y5 + 2) ∧ ts_w (y5 + 2) < (L : Int))) (b3 : (0 ≤ ts_w (y5 + 3) ∧ ts_w (y5 + 3) < (L : Int))) (hk : tz_K B y5 k28) : wL_law_B300 L xs k28 Q y5 M := by
  have hJ2 := hJ
  obtain ⟨⟨hW, hS⟩, ⟨n, h, hH, hHM⟩, -⟩ := hJ2
  have h1 : ts_w (ts_xs xs (ts_w (y5 + 1))) = ts_xs xs (ts_w (y5 + 1)) := tz_xw
  have h2 : ts_w (ts_xs xs (ts_w (y5 + 2))) = ts_xs xs (ts_w (y5 + 2)) := tz_xw
  unfold wL_law_B300
  generalize ts_xs xs (ts_w (y5 + 1)) = p1 at h1 ⊢
  generalize ts_xs xs (ts_w (y5 + 2)) = p2 at h2 ⊢
  exact tl_I (F := fun Qc m => (0 ≤ ts_w (y5 + 1) ∧ ts_w (y5 + 1) < (L : Int)) ∧ (0 ≤ ts_w (y5 + 2) ∧ ts_w (y5 + 2) < (L : Int)) ∧ wL_addSpoon p1 p2 Qc m) (G := fun Q m => (0 ≤ ts_w (y5 + 1) ∧ ts_w (y5 + 1) < (L : Int)) ∧ (0 ≤ ts_w (y5 + 2) ∧ ts_w (y5 + 2) < (L : Int)) ∧ wX12_addSpoon p1 p2 Q m) (R := tz_R1 B M n h (M.1 165) (tz_not (M.1 165) 0 p1 p2 0) (tz_res (M.1 165) 0 p1 p2 0) (tz_do (M.1 165) 0 p1 p2 0) (tz_q0 (tz_r0 (M.1 165) p1 p2))) hk
    (fun Qc hQ => ⟨b1, b2, tcl_0 hW hS hH (by omega) h1 h2 hQ⟩)
    (fun Q m o hR hQ => ⟨b1, b2, tml_0 hJ hB0 hB rfl hHM h1 h2 hR hQ⟩)
theorem tcl_1 (hW : tz_W B w) (hS : tz_S 0 M w) (hH : tz_H B M n h) (hB : B ≤ 900000000) (h1 : ts_w p1 = p1) (hQ : ∀ (m : ts_M) (o : Int), tz_R1 B M n h w (tz_not w 1 p1 0 0) (tz_res w 1 p1 0 0) (tz_do w 1 p1 0 0) (tz_q0 (tz_r1 w p1)) m o → Qc o m) : wL_propose p1 Qc M := by
  unfold wL_propose wX11_propose
  refine tc_change hW hS hH hB ⟨by decide, by decide⟩ h1 tz_n0 tz_n0 (fun hz m f s hh => ?_) (fun hz => ?_)
  · intro M5 e5
    exact hQ M5 0 (Or.inl ⟨hz, rfl, m, f, s, hh, e5⟩)
  · have hq := hQ M _ (Or.inr ⟨hz, rfl, rfl⟩)
    have e : tz_not w 1 p1 0 0 = tz_r1 w p1 := rfl
    rw [e] at hz ⊢
    rcases tz_r1_or (w := w) (p := p1) with c | c | c <;> rw [c] at hz hq ⊢
    · exact absurd rfl hz
    · exact Or.inl ⟨rfl, hq⟩
    · exact Or.inr (⟨rfl, hq⟩)
theorem tml_1 (hJ : tz_J B M) (hB0 : 0 ≤ B) (hB : B ≤ 800000000) (hw : M.1 165 = w) (hHM : tz_HM M n h) (h1 : ts_w p1 = p1) (hR : tz_R1 B M n h w (tz_not w 1 p1 0 0) (tz_res w 1 p1 0 0) (tz_do w 1 p1 0 0) (tz_q0 (tz_r1 w p1)) m o) (hQ : ∀ (x : Int) (m' : ts_M), tz_J (B + 108) m' → m'.1 164 0 = o → (ts_w o = 0 → m'.2.1 175 0 = ts_L x) → Q x m') : wX12_propose p1 Q m := by
  have hW : tz_W B w := by rw [← hw]; exact hJ.1.1
  have hqz : tz_q0 (tz_r1 w p1) = 0 ↔ tz_not w 1 p1 0 0 = 0 := by
    show tz_q0 (tz_r1 w p1) = 0 ↔ tz_r1 w p1 = 0
    rcases tz_r1_or (w := w) (p := p1) with c | c | c <;> rw [c] <;> decide
  have hqw : ts_w (tz_q0 (tz_r1 w p1)) = tz_q0 (tz_r1 w p1) := by
    rcases tz_r1_or (w := w) (p := p1) with c | c | c <;> rw [c] <;> exact tz_n (by decide) (by decide)
  unfold wX12_propose
  exact tl_ref (c := 1) (N := wX12_notPropose p1) (D := wX12_proposes p1) hJ hB0 hB hw hHM ⟨by decide, by decide⟩ hqw hqz
    (fun Q m' e hq => (tm_not1 (B := B) (by rw [e]; exact hW) h1).mpr (by rw [e]; exact hq))
    (fun hz Q m' e hQ => tm_d1 (p2 := 0) (p3 := 0) (B := B) (by rw [e]; exact hW) (by rw [e]; exact hz) (fun m'' f e2 => by rw [e]; exact hQ m'' f (by rw [e2, e])))
    hR hQ
theorem tl_c1 (hJ : tz_J B M) (hB0 : 0 ≤ B) (hB : B ≤ 800000000) (b1 : (0 ≤ ts_w (y5 + 1) ∧ ts_w (y5 + 1) < (L : Int))) (b2 : (0 ≤ ts_w (y5 + 2) ∧ ts_w (y5 + 2) < (L : Int))) (b3 : (0 ≤ ts_w (y5 + 3) ∧ ts_w (y5 + 3) < (L : Int))) (hk : tz_K B y5 k28) : wL_law_B368 L xs k28 Q y5 M := by
  have hJ2 := hJ
  obtain ⟨⟨hW, hS⟩, ⟨n, h, hH, hHM⟩, -⟩ := hJ2
  have h1 : ts_w (ts_xs xs (ts_w (y5 + 1))) = ts_xs xs (ts_w (y5 + 1)) := tz_xw
  unfold wL_law_B368
  generalize ts_xs xs (ts_w (y5 + 1)) = p1 at h1 ⊢
  exact tl_I (F := fun Qc m => (0 ≤ ts_w (y5 + 1) ∧ ts_w (y5 + 1) < (L : Int)) ∧ wL_propose p1 Qc m) (G := fun Q m => (0 ≤ ts_w (y5 + 1) ∧ ts_w (y5 + 1) < (L : Int)) ∧ wX12_propose p1 Q m) (R := tz_R1 B M n h (M.1 165) (tz_not (M.1 165) 1 p1 0 0) (tz_res (M.1 165) 1 p1 0 0) (tz_do (M.1 165) 1 p1 0 0) (tz_q0 (tz_r1 (M.1 165) p1))) hk
    (fun Qc hQ => ⟨b1, tcl_1 hW hS hH (by omega) h1 hQ⟩)
    (fun Q m o hR hQ => ⟨b1, tml_1 hJ hB0 hB rfl hHM h1 hR hQ⟩)
theorem tcl_2 (hW : tz_W B w) (hS : tz_S 0 M w) (hH : tz_H B M n h) (hB : B ≤ 900000000) (h1 : ts_w p1 = p1) (hQ : ∀ (m : ts_M) (o : Int), tz_R1 B M n h w (tz_not w 2 p1 0 0) (tz_res w 2 p1 0 0) (tz_do w 2 p1 0 0) (tz_q2 (tz_r2 w p1)) m o → Qc o m) : wL_moveMain p1 Qc M := by
  unfold wL_moveMain wX11_moveMain
  refine tc_change hW hS hH hB ⟨by decide, by decide⟩ h1 tz_n0 tz_n0 (fun hz m f s hh => ?_) (fun hz => ?_)
  · intro M5 e5
    exact hQ M5 0 (Or.inl ⟨hz, rfl, m, f, s, hh, e5⟩)
  · have hq := hQ M _ (Or.inr ⟨hz, rfl, rfl⟩)
    have e : tz_not w 2 p1 0 0 = tz_r2 w p1 := rfl
    rw [e] at hz ⊢
    rcases tz_r2_or (w := w) (p := p1) with c | c | c <;> rw [c] at hz hq ⊢
    · exact absurd rfl hz
    · exact Or.inl ⟨rfl, hq⟩
    · exact Or.inr (⟨rfl, hq⟩)
theorem tml_2 (hJ : tz_J B M) (hB0 : 0 ≤ B) (hB : B ≤ 800000000) (hw : M.1 165 = w) (hHM : tz_HM M n h) (h1 : ts_w p1 = p1) (hR : tz_R1 B M n h w (tz_not w 2 p1 0 0) (tz_res w 2 p1 0 0) (tz_do w 2 p1 0 0) (tz_q2 (tz_r2 w p1)) m o) (hQ : ∀ (x : Int) (m' : ts_M), tz_J (B + 108) m' → m'.1 164 0 = o → (ts_w o = 0 → m'.2.1 175 0 = ts_L x) → Q x m') : wX12_moveMain p1 Q m := by
  have hW : tz_W B w := by rw [← hw]; exact hJ.1.1
  have hqz : tz_q2 (tz_r2 w p1) = 0 ↔ tz_not w 2 p1 0 0 = 0 := by
    show tz_q2 (tz_r2 w p1) = 0 ↔ tz_r2 w p1 = 0
    rcases tz_r2_or (w := w) (p := p1) with c | c | c <;> rw [c] <;> decide
  have hqw : ts_w (tz_q2 (tz_r2 w p1)) = tz_q2 (tz_r2 w p1) := by
    rcases tz_r2_or (w := w) (p := p1) with c | c | c <;> rw [c] <;> exact tz_n (by decide) (by decide)
  unfold wX12_moveMain
  exact tl_ref (c := 2) (N := wX12_notMain p1) (D := wX12_makesMain p1) hJ hB0 hB hw hHM ⟨by decide, by decide⟩ hqw hqz
    (fun Q m' e hq => (tm_not2 (B := B) (by rw [e]; exact hW) (by omega) h1).mpr (by rw [e]; exact hq))
    (fun hz Q m' e hQ => tm_d2 (p2 := 0) (p3 := 0) (B := B) (by rw [e]; exact hW) (by rw [e]; exact hz) (fun m'' f e2 => by rw [e]; exact hQ m'' f (by rw [e2, e])))
    hR hQ
theorem tl_c2 (hJ : tz_J B M) (hB0 : 0 ≤ B) (hB : B ≤ 800000000) (b1 : (0 ≤ ts_w (y5 + 1) ∧ ts_w (y5 + 1) < (L : Int))) (b2 : (0 ≤ ts_w (y5 + 2) ∧ ts_w (y5 + 2) < (L : Int))) (b3 : (0 ≤ ts_w (y5 + 3) ∧ ts_w (y5 + 3) < (L : Int))) (hk : tz_K B y5 k28) : wL_law_B424 L xs k28 Q y5 M := by
  have hJ2 := hJ
  obtain ⟨⟨hW, hS⟩, ⟨n, h, hH, hHM⟩, -⟩ := hJ2
  have h1 : ts_w (ts_xs xs (ts_w (y5 + 1))) = ts_xs xs (ts_w (y5 + 1)) := tz_xw
  unfold wL_law_B424
  generalize ts_xs xs (ts_w (y5 + 1)) = p1 at h1 ⊢
  exact tl_I (F := fun Qc m => (0 ≤ ts_w (y5 + 1) ∧ ts_w (y5 + 1) < (L : Int)) ∧ wL_moveMain p1 Qc m) (G := fun Q m => (0 ≤ ts_w (y5 + 1) ∧ ts_w (y5 + 1) < (L : Int)) ∧ wX12_moveMain p1 Q m) (R := tz_R1 B M n h (M.1 165) (tz_not (M.1 165) 2 p1 0 0) (tz_res (M.1 165) 2 p1 0 0) (tz_do (M.1 165) 2 p1 0 0) (tz_q2 (tz_r2 (M.1 165) p1))) hk
    (fun Qc hQ => ⟨b1, tcl_2 hW hS hH (by omega) h1 hQ⟩)
    (fun Q m o hR hQ => ⟨b1, tml_2 hJ hB0 hB rfl hHM h1 hR hQ⟩)
theorem tcl_3 (hW : tz_W B w) (hS : tz_S 0 M w) (hH : tz_H B M n h) (hB : B ≤ 900000000) (h1 : ts_w p1 = p1) (hQ : ∀ (m : ts_M) (o : Int), tz_R1 B M n h w (tz_not w 3 p1 0 0) (tz_res w 3 p1 0 0) (tz_do w 3 p1 0 0) (tz_q3 (tz_r3 w p1)) m o → Qc o m) : wL_moveAmendment p1 Qc M := by
  unfold wL_moveAmendment wX11_moveAmendment
  refine tc_change hW hS hH hB ⟨by decide, by decide⟩ h1 tz_n0 tz_n0 (fun hz m f s hh => ?_) (fun hz => ?_)
  · intro M5 e5
    exact hQ M5 0 (Or.inl ⟨hz, rfl, m, f, s, hh, e5⟩)
  · have hq := hQ M _ (Or.inr ⟨hz, rfl, rfl⟩)
    have e : tz_not w 3 p1 0 0 = tz_r3 w p1 := rfl
    rw [e] at hz ⊢
    rcases tz_r3_or (w := w) (p := p1) with c | c | c <;> rw [c] at hz hq ⊢
    · exact absurd rfl hz
    · exact Or.inl ⟨rfl, hq⟩
    · exact Or.inr (⟨rfl, hq⟩)
theorem tml_3 (hJ : tz_J B M) (hB0 : 0 ≤ B) (hB : B ≤ 800000000) (hw : M.1 165 = w) (hHM : tz_HM M n h) (h1 : ts_w p1 = p1) (hR : tz_R1 B M n h w (tz_not w 3 p1 0 0) (tz_res w 3 p1 0 0) (tz_do w 3 p1 0 0) (tz_q3 (tz_r3 w p1)) m o) (hQ : ∀ (x : Int) (m' : ts_M), tz_J (B + 108) m' → m'.1 164 0 = o → (ts_w o = 0 → m'.2.1 175 0 = ts_L x) → Q x m') : wX12_moveAmendment p1 Q m := by
  have hW : tz_W B w := by rw [← hw]; exact hJ.1.1
  have hqz : tz_q3 (tz_r3 w p1) = 0 ↔ tz_not w 3 p1 0 0 = 0 := by
    show tz_q3 (tz_r3 w p1) = 0 ↔ tz_r3 w p1 = 0
    rcases tz_r3_or (w := w) (p := p1) with c | c | c <;> rw [c] <;> decide
  have hqw : ts_w (tz_q3 (tz_r3 w p1)) = tz_q3 (tz_r3 w p1) := by
    rcases tz_r3_or (w := w) (p := p1) with c | c | c <;> rw [c] <;> exact tz_n (by decide) (by decide)
  unfold wX12_moveAmendment
  exact tl_ref (c := 3) (N := wX12_notAmend p1) (D := wX12_makesAmendment p1) hJ hB0 hB hw hHM ⟨by decide, by decide⟩ hqw hqz
    (fun Q m' e hq => (tm_not3 (B := B) (by rw [e]; exact hW) h1).mpr (by rw [e]; exact hq))
    (fun hz Q m' e hQ => tm_d3 (p2 := 0) (p3 := 0) (B := B) (by rw [e]; exact hW) (by rw [e]; exact hz) (fun m'' f e2 => by rw [e]; exact hQ m'' f (by rw [e2, e])))
    hR hQ
theorem tl_c3 (hJ : tz_J B M) (hB0 : 0 ≤ B) (hB : B ≤ 800000000) (b1 : (0 ≤ ts_w (y5 + 1) ∧ ts_w (y5 + 1) < (L : Int))) (b2 : (0 ≤ ts_w (y5 + 2) ∧ ts_w (y5 + 2) < (L : Int))) (b3 : (0 ≤ ts_w (y5 + 3) ∧ ts_w (y5 + 3) < (L : Int))) (hk : tz_K B y5 k28) : wL_law_B480 L xs k28 Q y5 M := by
  have hJ2 := hJ
  obtain ⟨⟨hW, hS⟩, ⟨n, h, hH, hHM⟩, -⟩ := hJ2
  have h1 : ts_w (ts_xs xs (ts_w (y5 + 1))) = ts_xs xs (ts_w (y5 + 1)) := tz_xw
  unfold wL_law_B480
  generalize ts_xs xs (ts_w (y5 + 1)) = p1 at h1 ⊢
  exact tl_I (F := fun Qc m => (0 ≤ ts_w (y5 + 1) ∧ ts_w (y5 + 1) < (L : Int)) ∧ wL_moveAmendment p1 Qc m) (G := fun Q m => (0 ≤ ts_w (y5 + 1) ∧ ts_w (y5 + 1) < (L : Int)) ∧ wX12_moveAmendment p1 Q m) (R := tz_R1 B M n h (M.1 165) (tz_not (M.1 165) 3 p1 0 0) (tz_res (M.1 165) 3 p1 0 0) (tz_do (M.1 165) 3 p1 0 0) (tz_q3 (tz_r3 (M.1 165) p1))) hk
    (fun Qc hQ => ⟨b1, tcl_3 hW hS hH (by omega) h1 hQ⟩)
    (fun Q m o hR hQ => ⟨b1, tml_3 hJ hB0 hB rfl hHM h1 hR hQ⟩)
theorem tcl_7 (hW : tz_W B w) (hS : tz_S 0 M w) (hH : tz_H B M n h) (hB : B ≤ 900000000) (h1 : ts_w p1 = p1) (hQ : ∀ (m : ts_M) (o : Int), tz_R1 B M n h w (tz_not w 7 p1 0 0) (tz_res w 7 p1 0 0) (tz_do w 7 p1 0 0) (tz_q7 (tz_r7 w p1)) m o → Qc o m) : wL_speak p1 Qc M := by
  unfold wL_speak wX11_speak
  refine tc_change hW hS hH hB ⟨by decide, by decide⟩ h1 tz_n0 tz_n0 (fun hz m f s hh => ?_) (fun hz => ?_)
  · intro M5 e5
    exact hQ M5 0 (Or.inl ⟨hz, rfl, m, f, s, hh, e5⟩)
  · have hq := hQ M _ (Or.inr ⟨hz, rfl, rfl⟩)
    have e : tz_not w 7 p1 0 0 = tz_r7 w p1 := rfl
    rw [e] at hz ⊢
    rcases tz_r7_or (w := w) (p := p1) with c | c | c | c <;> rw [c] at hz hq ⊢
    · exact absurd rfl hz
    · exact Or.inl ⟨rfl, hq⟩
    · exact Or.inr (Or.inl ⟨rfl, hq⟩)
    · exact Or.inr (Or.inr (⟨rfl, hq⟩))
theorem tml_7 (hJ : tz_J B M) (hB0 : 0 ≤ B) (hB : B ≤ 800000000) (hw : M.1 165 = w) (hHM : tz_HM M n h) (h1 : ts_w p1 = p1) (hR : tz_R1 B M n h w (tz_not w 7 p1 0 0) (tz_res w 7 p1 0 0) (tz_do w 7 p1 0 0) (tz_q7 (tz_r7 w p1)) m o) (hQ : ∀ (x : Int) (m' : ts_M), tz_J (B + 108) m' → m'.1 164 0 = o → (ts_w o = 0 → m'.2.1 175 0 = ts_L x) → Q x m') : wX12_speak p1 Q m := by
  have hW : tz_W B w := by rw [← hw]; exact hJ.1.1
  have hqz : tz_q7 (tz_r7 w p1) = 0 ↔ tz_not w 7 p1 0 0 = 0 := by
    show tz_q7 (tz_r7 w p1) = 0 ↔ tz_r7 w p1 = 0
    rcases tz_r7_or (w := w) (p := p1) with c | c | c | c <;> rw [c] <;> decide
  have hqw : ts_w (tz_q7 (tz_r7 w p1)) = tz_q7 (tz_r7 w p1) := by
    rcases tz_r7_or (w := w) (p := p1) with c | c | c | c <;> rw [c] <;> exact tz_n (by decide) (by decide)
  unfold wX12_speak
  exact tl_ref (c := 7) (N := wX12_notSpeak p1) (D := wX12_speaks p1) hJ hB0 hB hw hHM ⟨by decide, by decide⟩ hqw hqz
    (fun Q m' e hq => (tm_not7 (B := B) (by rw [e]; exact hW) (by omega) h1).mpr (by rw [e]; exact hq))
    (fun hz Q m' e hQ => tm_d7 (p2 := 0) (p3 := 0) (B := B) (by rw [e]; exact hW) (by rw [e]; exact hz) (fun m'' f e2 => by rw [e]; exact hQ m'' f (by rw [e2, e])))
    hR hQ
theorem tl_c7 (hJ : tz_J B M) (hB0 : 0 ≤ B) (hB : B ≤ 800000000) (b1 : (0 ≤ ts_w (y5 + 1) ∧ ts_w (y5 + 1) < (L : Int))) (b2 : (0 ≤ ts_w (y5 + 2) ∧ ts_w (y5 + 2) < (L : Int))) (b3 : (0 ≤ ts_w (y5 + 3) ∧ ts_w (y5 + 3) < (L : Int))) (hk : tz_K B y5 k28) : wL_law_B668 L xs k28 Q y5 M := by
  have hJ2 := hJ
  obtain ⟨⟨hW, hS⟩, ⟨n, h, hH, hHM⟩, -⟩ := hJ2
  have h1 : ts_w (ts_xs xs (ts_w (y5 + 1))) = ts_xs xs (ts_w (y5 + 1)) := tz_xw
  unfold wL_law_B668
  generalize ts_xs xs (ts_w (y5 + 1)) = p1 at h1 ⊢
  exact tl_I (F := fun Qc m => (0 ≤ ts_w (y5 + 1) ∧ ts_w (y5 + 1) < (L : Int)) ∧ wL_speak p1 Qc m) (G := fun Q m => (0 ≤ ts_w (y5 + 1) ∧ ts_w (y5 + 1) < (L : Int)) ∧ wX12_speak p1 Q m) (R := tz_R1 B M n h (M.1 165) (tz_not (M.1 165) 7 p1 0 0) (tz_res (M.1 165) 7 p1 0 0) (tz_do (M.1 165) 7 p1 0 0) (tz_q7 (tz_r7 (M.1 165) p1))) hk
    (fun Qc hQ => ⟨b1, tcl_7 hW hS hH (by omega) h1 hQ⟩)
    (fun Q m o hR hQ => ⟨b1, tml_7 hJ hB0 hB rfl hHM h1 hR hQ⟩)
theorem tcl_9 (hW : tz_W B w) (hS : tz_S 0 M w) (hH : tz_H B M n h) (hB : B ≤ 900000000) (h1 : ts_w p1 = p1) (h2 : ts_w p2 = p2) (h3 : ts_w p3 = p3) (hQ : ∀ (m : ts_M) (o : Int), tz_R1 B M n h w (tz_not w 9 p1 p2 p3) (tz_res w 9 p1 p2 p3) (tz_do w 9 p1 p2 p3) (tz_q9 (tz_r9 p1 p2 p3)) m o → Qc o m) : wL_spill p1 p2 p3 Qc M := by
  unfold wL_spill wX11_spill
  refine tc_change hW hS hH hB ⟨by decide, by decide⟩ h1 h2 h3 (fun hz m f s hh => ?_) (fun hz => ?_)
  · intro M5 e5
    exact hQ M5 0 (Or.inl ⟨hz, rfl, m, f, s, hh, e5⟩)
  · have hq := hQ M _ (Or.inr ⟨hz, rfl, rfl⟩)
    have e : tz_not w 9 p1 p2 p3 = tz_r9 p1 p2 p3 := rfl
    rw [e] at hz ⊢
    rcases tz_r9_or (p1 := p1) (p2 := p2) (p3 := p3) with c | c | c <;> rw [c] at hz hq ⊢
    · exact absurd rfl hz
    · exact Or.inl ⟨rfl, hq⟩
    · exact Or.inr (⟨rfl, hq⟩)
theorem tml_9 (hJ : tz_J B M) (hB0 : 0 ≤ B) (hB : B ≤ 800000000) (hw : M.1 165 = w) (hHM : tz_HM M n h) (h1 : ts_w p1 = p1) (h2 : ts_w p2 = p2) (h3 : ts_w p3 = p3) (hR : tz_R1 B M n h w (tz_not w 9 p1 p2 p3) (tz_res w 9 p1 p2 p3) (tz_do w 9 p1 p2 p3) (tz_q9 (tz_r9 p1 p2 p3)) m o) (hQ : ∀ (x : Int) (m' : ts_M), tz_J (B + 108) m' → m'.1 164 0 = o → (ts_w o = 0 → m'.2.1 175 0 = ts_L x) → Q x m') : wX12_spill p1 p2 p3 Q m := by
  have hW : tz_W B w := by rw [← hw]; exact hJ.1.1
  have hqz : tz_q9 (tz_r9 p1 p2 p3) = 0 ↔ tz_not w 9 p1 p2 p3 = 0 := by
    show tz_q9 (tz_r9 p1 p2 p3) = 0 ↔ tz_r9 p1 p2 p3 = 0
    rcases tz_r9_or (p1 := p1) (p2 := p2) (p3 := p3) with c | c | c <;> rw [c] <;> decide
  have hqw : ts_w (tz_q9 (tz_r9 p1 p2 p3)) = tz_q9 (tz_r9 p1 p2 p3) := by
    rcases tz_r9_or (p1 := p1) (p2 := p2) (p3 := p3) with c | c | c <;> rw [c] <;> exact tz_n (by decide) (by decide)
  unfold wX12_spill
  exact tl_ref (c := 9) (N := wX12_notSpill p1 p2 p3) (D := wX12_spills p1 p2 p3) hJ hB0 hB hw hHM ⟨by decide, by decide⟩ hqw hqz
    (fun Q m' e hq => (tm_not9 h1 h2 h3).mpr (by exact hq))
    (fun hz Q m' e hQ => tm_d9  (B := B) (by rw [e]; exact hW) (by rw [e]; exact hz) (fun m'' f e2 => by rw [e]; exact hQ m'' f (by rw [e2, e])))
    hR hQ
theorem tl_c9 (hJ : tz_J B M) (hB0 : 0 ≤ B) (hB : B ≤ 800000000) (b1 : (0 ≤ ts_w (y5 + 1) ∧ ts_w (y5 + 1) < (L : Int))) (b2 : (0 ≤ ts_w (y5 + 2) ∧ ts_w (y5 + 2) < (L : Int))) (b3 : (0 ≤ ts_w (y5 + 3) ∧ ts_w (y5 + 3) < (L : Int))) (hk : tz_K B y5 k28) : wL_law_B775 L xs k28 Q y5 M := by
  have hJ2 := hJ
  obtain ⟨⟨hW, hS⟩, ⟨n, h, hH, hHM⟩, -⟩ := hJ2
  have h1 : ts_w (ts_xs xs (ts_w (y5 + 1))) = ts_xs xs (ts_w (y5 + 1)) := tz_xw
  have h2 : ts_w (ts_xs xs (ts_w (y5 + 2))) = ts_xs xs (ts_w (y5 + 2)) := tz_xw
  have h3 : ts_w (ts_xs xs (ts_w (y5 + 3))) = ts_xs xs (ts_w (y5 + 3)) := tz_xw
  unfold wL_law_B775
  generalize ts_xs xs (ts_w (y5 + 1)) = p1 at h1 ⊢
  generalize ts_xs xs (ts_w (y5 + 2)) = p2 at h2 ⊢
  generalize ts_xs xs (ts_w (y5 + 3)) = p3 at h3 ⊢
  exact tl_I (F := fun Qc m => (0 ≤ ts_w (y5 + 1) ∧ ts_w (y5 + 1) < (L : Int)) ∧ (0 ≤ ts_w (y5 + 2) ∧ ts_w (y5 + 2) < (L : Int)) ∧ (0 ≤ ts_w (y5 + 3) ∧ ts_w (y5 + 3) < (L : Int)) ∧ wL_spill p1 p2 p3 Qc m) (G := fun Q m => (0 ≤ ts_w (y5 + 1) ∧ ts_w (y5 + 1) < (L : Int)) ∧ (0 ≤ ts_w (y5 + 2) ∧ ts_w (y5 + 2) < (L : Int)) ∧ (0 ≤ ts_w (y5 + 3) ∧ ts_w (y5 + 3) < (L : Int)) ∧ wX12_spill p1 p2 p3 Q m) (R := tz_R1 B M n h (M.1 165) (tz_not (M.1 165) 9 p1 p2 p3) (tz_res (M.1 165) 9 p1 p2 p3) (tz_do (M.1 165) 9 p1 p2 p3) (tz_q9 (tz_r9 p1 p2 p3))) hk
    (fun Qc hQ => ⟨b1, b2, b3, tcl_9 hW hS hH (by omega) h1 h2 h3 hQ⟩)
    (fun Q m o hR hQ => ⟨b1, b2, b3, tml_9 hJ hB0 hB rfl hHM h1 h2 h3 hR hQ⟩)
theorem tcl_10 (hW : tz_W B w) (hS : tz_S 0 M w) (hH : tz_H B M n h) (hB : B ≤ 900000000) (h1 : ts_w p1 = p1) (h2 : ts_w p2 = p2) (hQ : ∀ (m : ts_M) (o : Int), tz_R1 B M n h w (tz_not w 10 p1 p2 0) (tz_res w 10 p1 p2 0) (tz_do w 10 p1 p2 0) (tz_q10 (tz_r10 w p1 p2)) m o → Qc o m) : wL_mop p1 p2 Qc M := by
  unfold wL_mop wX11_mop
  refine tc_change hW hS hH hB ⟨by decide, by decide⟩ h1 h2 tz_n0 (fun hz m f s hh => ?_) (fun hz => ?_)
  · intro M5 e5
    exact hQ M5 0 (Or.inl ⟨hz, rfl, m, f, s, hh, e5⟩)
  · have hq := hQ M _ (Or.inr ⟨hz, rfl, rfl⟩)
    have e : tz_not w 10 p1 p2 0 = tz_r10 w p1 p2 := rfl
    rw [e] at hz ⊢
    rcases tz_r10_or (w := w) (p1 := p1) (p2 := p2) with c | c | c <;> rw [c] at hz hq ⊢
    · exact absurd rfl hz
    · exact Or.inl ⟨rfl, hq⟩
    · exact Or.inr (⟨rfl, hq⟩)
theorem tml_10 (hJ : tz_J B M) (hB0 : 0 ≤ B) (hB : B ≤ 800000000) (hw : M.1 165 = w) (hHM : tz_HM M n h) (h1 : ts_w p1 = p1) (h2 : ts_w p2 = p2) (hR : tz_R1 B M n h w (tz_not w 10 p1 p2 0) (tz_res w 10 p1 p2 0) (tz_do w 10 p1 p2 0) (tz_q10 (tz_r10 w p1 p2)) m o) (hQ : ∀ (x : Int) (m' : ts_M), tz_J (B + 108) m' → m'.1 164 0 = o → (ts_w o = 0 → m'.2.1 175 0 = ts_L x) → Q x m') : wX12_mop p1 p2 Q m := by
  have hW : tz_W B w := by rw [← hw]; exact hJ.1.1
  have hqz : tz_q10 (tz_r10 w p1 p2) = 0 ↔ tz_not w 10 p1 p2 0 = 0 := by
    show tz_q10 (tz_r10 w p1 p2) = 0 ↔ tz_r10 w p1 p2 = 0
    rcases tz_r10_or (w := w) (p1 := p1) (p2 := p2) with c | c | c <;> rw [c] <;> decide
  have hqw : ts_w (tz_q10 (tz_r10 w p1 p2)) = tz_q10 (tz_r10 w p1 p2) := by
    rcases tz_r10_or (w := w) (p1 := p1) (p2 := p2) with c | c | c <;> rw [c] <;> exact tz_n (by decide) (by decide)
  unfold wX12_mop
  exact tl_ref (c := 10) (N := wX12_notMop p1 p2) (D := wX12_mops p1 p2) hJ hB0 hB hw hHM ⟨by decide, by decide⟩ hqw hqz
    (fun Q m' e hq => (tm_not10 (B := B) (by rw [e]; exact hW) h1 h2).mpr (by rw [e]; exact hq))
    (fun hz Q m' e hQ => tm_d10 (p3 := 0) (B := B) (by rw [e]; exact hW) (by rw [e]; exact hz) (fun m'' f e2 => by rw [e]; exact hQ m'' f (by rw [e2, e])))
    hR hQ
theorem tl_c10 (hJ : tz_J B M) (hB0 : 0 ≤ B) (hB : B ≤ 800000000) (b1 : (0 ≤ ts_w (y5 + 1) ∧ ts_w (y5 + 1) < (L : Int))) (b2 : (0 ≤ ts_w (y5 + 2) ∧ ts_w (y5 + 2) < (L : Int))) (b3 : (0 ≤ ts_w (y5 + 3) ∧ ts_w (y5 + 3) < (L : Int))) (hk : tz_K B y5 k28) : wL_law_B855 L xs k28 Q y5 M := by
  have hJ2 := hJ
  obtain ⟨⟨hW, hS⟩, ⟨n, h, hH, hHM⟩, -⟩ := hJ2
  have h1 : ts_w (ts_xs xs (ts_w (y5 + 1))) = ts_xs xs (ts_w (y5 + 1)) := tz_xw
  have h2 : ts_w (ts_xs xs (ts_w (y5 + 2))) = ts_xs xs (ts_w (y5 + 2)) := tz_xw
  unfold wL_law_B855
  generalize ts_xs xs (ts_w (y5 + 1)) = p1 at h1 ⊢
  generalize ts_xs xs (ts_w (y5 + 2)) = p2 at h2 ⊢
  exact tl_I (F := fun Qc m => (0 ≤ ts_w (y5 + 1) ∧ ts_w (y5 + 1) < (L : Int)) ∧ (0 ≤ ts_w (y5 + 2) ∧ ts_w (y5 + 2) < (L : Int)) ∧ wL_mop p1 p2 Qc m) (G := fun Q m => (0 ≤ ts_w (y5 + 1) ∧ ts_w (y5 + 1) < (L : Int)) ∧ (0 ≤ ts_w (y5 + 2) ∧ ts_w (y5 + 2) < (L : Int)) ∧ wX12_mop p1 p2 Q m) (R := tz_R1 B M n h (M.1 165) (tz_not (M.1 165) 10 p1 p2 0) (tz_res (M.1 165) 10 p1 p2 0) (tz_do (M.1 165) 10 p1 p2 0) (tz_q10 (tz_r10 (M.1 165) p1 p2))) hk
    (fun Qc hQ => ⟨b1, b2, tcl_10 hW hS hH (by omega) h1 h2 hQ⟩)
    (fun Q m o hR hQ => ⟨b1, b2, tml_10 hJ hB0 hB rfl hHM h1 h2 hR hQ⟩)
theorem tcl_11 (hW : tz_W B w) (hS : tz_S 0 M w) (hH : tz_H B M n h) (hB : B ≤ 900000000) (h1 : ts_w p1 = p1) (h2 : ts_w p2 = p2) (hQ : ∀ (m : ts_M) (o : Int), tz_R1 B M n h w (tz_not w 11 p1 p2 0) (tz_res w 11 p1 p2 0) (tz_do w 11 p1 p2 0) (tz_q9 (tz_r11 w p1 p2)) m o → Qc o m) : wL_giveSugar p1 p2 Qc M := by
  unfold wL_giveSugar wX11_giveSugar
  refine tc_change hW hS hH hB ⟨by decide, by decide⟩ h1 h2 tz_n0 (fun hz m f s hh => ?_) (fun hz => ?_)
  · intro M5 e5
    exact hQ M5 0 (Or.inl ⟨hz, rfl, m, f, s, hh, e5⟩)
  · have hq := hQ M _ (Or.inr ⟨hz, rfl, rfl⟩)
    have e : tz_not w 11 p1 p2 0 = tz_r11 w p1 p2 := rfl
    rw [e] at hz ⊢
    rcases tz_r11_or (w := w) (p1 := p1) (p2 := p2) with c | c | c <;> rw [c] at hz hq ⊢
    · exact absurd rfl hz
    · exact Or.inl ⟨rfl, hq⟩
    · exact Or.inr (⟨rfl, hq⟩)
theorem tml_11 (hJ : tz_J B M) (hB0 : 0 ≤ B) (hB : B ≤ 800000000) (hw : M.1 165 = w) (hHM : tz_HM M n h) (h1 : ts_w p1 = p1) (h2 : ts_w p2 = p2) (hR : tz_R1 B M n h w (tz_not w 11 p1 p2 0) (tz_res w 11 p1 p2 0) (tz_do w 11 p1 p2 0) (tz_q9 (tz_r11 w p1 p2)) m o) (hQ : ∀ (x : Int) (m' : ts_M), tz_J (B + 108) m' → m'.1 164 0 = o → (ts_w o = 0 → m'.2.1 175 0 = ts_L x) → Q x m') : wX12_giveSugar p1 p2 Q m := by
  have hW : tz_W B w := by rw [← hw]; exact hJ.1.1
  have hqz : tz_q9 (tz_r11 w p1 p2) = 0 ↔ tz_not w 11 p1 p2 0 = 0 := by
    show tz_q9 (tz_r11 w p1 p2) = 0 ↔ tz_r11 w p1 p2 = 0
    rcases tz_r11_or (w := w) (p1 := p1) (p2 := p2) with c | c | c <;> rw [c] <;> decide
  have hqw : ts_w (tz_q9 (tz_r11 w p1 p2)) = tz_q9 (tz_r11 w p1 p2) := by
    rcases tz_r11_or (w := w) (p1 := p1) (p2 := p2) with c | c | c <;> rw [c] <;> exact tz_n (by decide) (by decide)
  unfold wX12_giveSugar
  exact tl_ref (c := 11) (N := wX12_notSugar p1 p2) (D := wX12_gives p1 p2) hJ hB0 hB hw hHM ⟨by decide, by decide⟩ hqw hqz
    (fun Q m' e hq => (tm_not11 (B := B) (by rw [e]; exact hW) h1 h2).mpr (by rw [e]; exact hq))
    (fun hz Q m' e hQ => tm_d11 (p3 := 0) (B := B) (by rw [e]; exact hW) (by rw [e]; exact hz) (fun m'' f e2 => by rw [e]; exact hQ m'' f (by rw [e2, e])))
    hR hQ
theorem tl_c11 (hJ : tz_J B M) (hB0 : 0 ≤ B) (hB : B ≤ 800000000) (b1 : (0 ≤ ts_w (y5 + 1) ∧ ts_w (y5 + 1) < (L : Int))) (b2 : (0 ≤ ts_w (y5 + 2) ∧ ts_w (y5 + 2) < (L : Int))) (b3 : (0 ≤ ts_w (y5 + 3) ∧ ts_w (y5 + 3) < (L : Int))) (hk : tz_K B y5 k28) : wL_law_B923 L xs k28 Q y5 M := by
  have hJ2 := hJ
  obtain ⟨⟨hW, hS⟩, ⟨n, h, hH, hHM⟩, -⟩ := hJ2
  have h1 : ts_w (ts_xs xs (ts_w (y5 + 1))) = ts_xs xs (ts_w (y5 + 1)) := tz_xw
  have h2 : ts_w (ts_xs xs (ts_w (y5 + 2))) = ts_xs xs (ts_w (y5 + 2)) := tz_xw
  unfold wL_law_B923
  generalize ts_xs xs (ts_w (y5 + 1)) = p1 at h1 ⊢
  generalize ts_xs xs (ts_w (y5 + 2)) = p2 at h2 ⊢
  exact tl_I (F := fun Qc m => (0 ≤ ts_w (y5 + 1) ∧ ts_w (y5 + 1) < (L : Int)) ∧ (0 ≤ ts_w (y5 + 2) ∧ ts_w (y5 + 2) < (L : Int)) ∧ wL_giveSugar p1 p2 Qc m) (G := fun Q m => (0 ≤ ts_w (y5 + 1) ∧ ts_w (y5 + 1) < (L : Int)) ∧ (0 ≤ ts_w (y5 + 2) ∧ ts_w (y5 + 2) < (L : Int)) ∧ wX12_giveSugar p1 p2 Q m) (R := tz_R1 B M n h (M.1 165) (tz_not (M.1 165) 11 p1 p2 0) (tz_res (M.1 165) 11 p1 p2 0) (tz_do (M.1 165) 11 p1 p2 0) (tz_q9 (tz_r11 (M.1 165) p1 p2))) hk
    (fun Qc hQ => ⟨b1, b2, tcl_11 hW hS hH (by omega) h1 h2 hQ⟩)
    (fun Q m o hR hQ => ⟨b1, b2, tml_11 hJ hB0 hB rfl hHM h1 h2 hR hQ⟩)
/-- a motion without an argument -/
theorem tml_mv {k c : Int} (hJ : tz_J B M) (hB0 : 0 ≤ B) (hB : B ≤ 800000000) (hw : M.1 165 = w) (hHM : tz_HM M n h) (hk : 0 ≤ k ∧ k ≤ 4) (hc : 0 ≤ c ∧ c ≤ 11) (en : tz_not w c 0 0 0 = tz_rm w k) (ed : tz_do w c 0 0 0 = to_make w k) (er : tz_res w c 0 0 0 = w 3 + 1) (hR : tz_R1 B M n h w (tz_not w c 0 0 0) (tz_res w c 0 0 0) (tz_do w c 0 0 0) (tz_qm (tz_rm w k)) m o) (hQ : ∀ (x : Int) (m' : ts_M), tz_J (B + 108) m' → m'.1 164 0 = o → (ts_w o = 0 → m'.2.1 175 0 = ts_L x) → Q x m') : wX12_moves k Q m := by
  have hW : tz_W B w := by rw [← hw]; exact hJ.1.1
  unfold wX12_moves
  intro M1 eM
  rw [eM]
  have e1 : (ts_si m 164 0 0).1 165 = w := by rw [ts_si_ne (by decide)]; exact tl_refw hw hR
  refine (tm_canMake (B := B) (by rw [e1]; exact hW) hk.1 hk.2).mpr ?_
  rw [e1, tz_iw, tz_iz]
  refine ⟨fun hz => ?_, fun hz => ?_⟩
  · have ha : tz_adm w k = true := by
      cases e : tz_adm w k
      · exact absurd e hz
      · rfl
    have hn : tz_not w c 0 0 0 = 0 := by rw [en]; unfold tz_rm; rw [if_pos ha]
    exact tl_refA (D := wX12_makes k) hJ hB0 hB hw hHM hc hn (fun Q m' e hQ => tm_dm (B := B) (by rw [e]; exact hW) (by rw [e, ← en]; exact hn) hk.2 (fun m'' f e2 => by rw [e, ← er]; exact hQ m'' f (by rw [e2, e, ed]))) hR (fun m' h1 h2 h3 => hQ _ m' h1 h2 (fun _ => h3))
  · have h5 : tz_rm w k = 5 := by unfold tz_rm; rw [hz]; rfl
    have hn : tz_not w c 0 0 0 ≠ 0 := by rw [en, h5]; decide
    have hq1 : tz_qm (tz_rm w k) = 1 := by rw [h5]; rfl
    exact tl_refX hJ hn hR (fun m' h1 h2 h3 => hQ 0 m' h1 (by rw [h2, h3, hq1]) (fun hx => absurd hx (by rw [h3, hq1, tz_n1]; decide)))
theorem tcl_4 (hW : tz_W B w) (hS : tz_S 0 M w) (hH : tz_H B M n h) (hB : B ≤ 900000000) (hQ : ∀ (m : ts_M) (o : Int), tz_R1 B M n h w (tz_not w 4 0 0 0) (tz_res w 4 0 0 0) (tz_do w 4 0 0 0) (tz_qm (tz_rm w 2)) m o → Qc o m) : wL_movePostponement Qc M := by
  unfold wL_movePostponement wX11_movePostponement
  refine tc_change hW hS hH hB ⟨by decide, by decide⟩ tz_n0 tz_n0 tz_n0 (fun hz m f s hh => ?_) (fun hz => ?_)
  · intro M5 e5
    exact hQ M5 0 (Or.inl ⟨hz, rfl, m, f, s, hh, e5⟩)
  · have hq := hQ M _ (Or.inr ⟨hz, rfl, rfl⟩)
    have e : tz_not w 4 0 0 0 = tz_rm w 2 := rfl
    rw [e] at hz ⊢
    rcases tz_rm_or (w := w) (p := 2) with c | c <;> rw [c] at hz hq ⊢
    · exact absurd rfl hz
    · exact ⟨rfl, hq⟩
theorem tl_c4 (hJ : tz_J B M) (hB0 : 0 ≤ B) (hB : B ≤ 800000000) (hk : tz_K B y5 k28) : wL_law_B536 L xs k28 Q y5 M := by
  have hJ2 := hJ
  obtain ⟨⟨hW, hS⟩, ⟨n, h, hH, hHM⟩, -⟩ := hJ2
  unfold wL_law_B536
  exact tl_I (F := fun Qc m => wL_movePostponement Qc m) (G := fun Q m => wX12_movePostponement Q m) (R := tz_R1 B M n h (M.1 165) (tz_not (M.1 165) 4 0 0 0) (tz_res (M.1 165) 4 0 0 0) (tz_do (M.1 165) 4 0 0 0) (tz_qm (tz_rm (M.1 165) 2))) hk
    (fun Qc hQ => tcl_4 hW hS hH (by omega) hQ)
    (fun Q m o hR hQ => by
      unfold wX12_movePostponement
      exact tml_mv hJ hB0 hB rfl hHM ⟨by decide, by decide⟩ ⟨by decide, by decide⟩ rfl rfl rfl hR hQ)
theorem tcl_5 (hW : tz_W B w) (hS : tz_S 0 M w) (hH : tz_H B M n h) (hB : B ≤ 900000000) (hQ : ∀ (m : ts_M) (o : Int), tz_R1 B M n h w (tz_not w 5 0 0 0) (tz_res w 5 0 0 0) (tz_do w 5 0 0 0) (tz_qm (tz_rm w 3)) m o → Qc o m) : wL_moveClosure Qc M := by
  unfold wL_moveClosure wX11_moveClosure
  refine tc_change hW hS hH hB ⟨by decide, by decide⟩ tz_n0 tz_n0 tz_n0 (fun hz m f s hh => ?_) (fun hz => ?_)
  · intro M5 e5
    exact hQ M5 0 (Or.inl ⟨hz, rfl, m, f, s, hh, e5⟩)
  · have hq := hQ M _ (Or.inr ⟨hz, rfl, rfl⟩)
    have e : tz_not w 5 0 0 0 = tz_rm w 3 := rfl
    rw [e] at hz ⊢
    rcases tz_rm_or (w := w) (p := 3) with c | c <;> rw [c] at hz hq ⊢
    · exact absurd rfl hz
    · exact ⟨rfl, hq⟩
theorem tl_c5 (hJ : tz_J B M) (hB0 : 0 ≤ B) (hB : B ≤ 800000000) (hk : tz_K B y5 k28) : wL_law_B580 L xs k28 Q y5 M := by
  have hJ2 := hJ
  obtain ⟨⟨hW, hS⟩, ⟨n, h, hH, hHM⟩, -⟩ := hJ2
  unfold wL_law_B580
  exact tl_I (F := fun Qc m => wL_moveClosure Qc m) (G := fun Q m => wX12_moveClosure Q m) (R := tz_R1 B M n h (M.1 165) (tz_not (M.1 165) 5 0 0 0) (tz_res (M.1 165) 5 0 0 0) (tz_do (M.1 165) 5 0 0 0) (tz_qm (tz_rm (M.1 165) 3))) hk
    (fun Qc hQ => tcl_5 hW hS hH (by omega) hQ)
    (fun Q m o hR hQ => by
      unfold wX12_moveClosure
      exact tml_mv hJ hB0 hB rfl hHM ⟨by decide, by decide⟩ ⟨by decide, by decide⟩ rfl rfl rfl hR hQ)
theorem tcl_6 (hW : tz_W B w) (hS : tz_S 0 M w) (hH : tz_H B M n h) (hB : B ≤ 900000000) (hQ : ∀ (m : ts_M) (o : Int), tz_R1 B M n h w (tz_not w 6 0 0 0) (tz_res w 6 0 0 0) (tz_do w 6 0 0 0) (tz_qm (tz_rm w 4)) m o → Qc o m) : wL_moveAdjournment Qc M := by
  unfold wL_moveAdjournment wX11_moveAdjournment
  refine tc_change hW hS hH hB ⟨by decide, by decide⟩ tz_n0 tz_n0 tz_n0 (fun hz m f s hh => ?_) (fun hz => ?_)
  · intro M5 e5
    exact hQ M5 0 (Or.inl ⟨hz, rfl, m, f, s, hh, e5⟩)
  · have hq := hQ M _ (Or.inr ⟨hz, rfl, rfl⟩)
    have e : tz_not w 6 0 0 0 = tz_rm w 4 := rfl
    rw [e] at hz ⊢
    rcases tz_rm_or (w := w) (p := 4) with c | c <;> rw [c] at hz hq ⊢
    · exact absurd rfl hz
    · exact ⟨rfl, hq⟩
theorem tl_c6 (hJ : tz_J B M) (hB0 : 0 ≤ B) (hB : B ≤ 800000000) (hk : tz_K B y5 k28) : wL_law_B624 L xs k28 Q y5 M := by
  have hJ2 := hJ
  obtain ⟨⟨hW, hS⟩, ⟨n, h, hH, hHM⟩, -⟩ := hJ2
  unfold wL_law_B624
  exact tl_I (F := fun Qc m => wL_moveAdjournment Qc m) (G := fun Q m => wX12_moveAdjournment Q m) (R := tz_R1 B M n h (M.1 165) (tz_not (M.1 165) 6 0 0 0) (tz_res (M.1 165) 6 0 0 0) (tz_do (M.1 165) 6 0 0 0) (tz_qm (tz_rm (M.1 165) 4))) hk
    (fun Qc hQ => tcl_6 hW hS hH (by omega) hQ)
    (fun Q m o hR hQ => by
      unfold wX12_moveAdjournment
      exact tml_mv hJ hB0 hB rfl hHM ⟨by decide, by decide⟩ ⟨by decide, by decide⟩ rfl rfl rfl hR hQ)
/-! a vote -/
theorem tz_res8 : tz_res w 8 0 0 0 = 0 ∨ tz_res w 8 0 0 0 = 1 := by
  have hb : tz_i (tz_ado w) = 0 ∨ tz_i (tz_ado w) = 1 := of_eq_true tz_i01
  exact hb
theorem tcl_8 (hW : tz_W B w) (hS : tz_S 0 M w) (hH : tz_H B M n h) (hB : B ≤ 900000000) (hQ : ∀ (m : ts_M) (o : Int), tz_R1 B M n h w (tz_not w 8 0 0 0) (tz_res w 8 0 0 0) (tz_do w 8 0 0 0) (tz_q8 (tz_r8 w)) m o → Qc o m) : wL_vote Qc M := by
  unfold wL_vote wX11_vote
  refine tc_change hW hS hH hB ⟨by decide, by decide⟩ tz_n0 tz_n0 tz_n0 (fun hz m f s hh => ?_) (fun hz => ?_)
  · exact tl_n1 (Q := fun r2 M1 => ((ts_w r2 = 0 → wL_vote_B14 Qc 0 0 M1) ∧ (¬ (ts_w r2 = 0) → wL_vote_B14 Qc 1 0 M1))) tz_res8 (tl_wb tz_res8 (hQ _ 0 (Or.inl ⟨hz, rfl, m, f, s, hh, rfl⟩)))
  · have hq := hQ M _ (Or.inr ⟨hz, rfl, rfl⟩)
    have e : tz_not w 8 0 0 0 = tz_r8 w := rfl
    rw [e] at hz ⊢
    rcases tz_r8_or (w := w) with c | c <;> rw [c] at hz hq ⊢
    · exact absurd rfl hz
    · exact ⟨rfl, hq⟩
theorem tml_8 (hJ : tz_J B M) (hB0 : 0 ≤ B) (hB : B ≤ 800000000) (hw : M.1 165 = w) (hHM : tz_HM M n h) (hR : tz_R1 B M n h w (tz_not w 8 0 0 0) (tz_res w 8 0 0 0) (tz_do w 8 0 0 0) (tz_q8 (tz_r8 w)) m o) (hQ : ∀ (x : Int) (m' : ts_M), tz_J (B + 108) m' → m'.1 164 0 = o → (ts_w o = 0 → m'.2.1 175 0 = ts_L x ∧ (x = 0 ∨ x = 1)) → Q x m') : wX12_vote Q m := by
  have hW : tz_W B w := by rw [← hw]; exact hJ.1.1
  unfold wX12_vote
  intro M1 eM
  rw [eM]
  have e1 : (ts_si m 164 0 0).1 165 = w := by rw [ts_si_ne (by decide)]; exact tl_refw hw hR
  refine (tm_not8 (B := B) (by rw [e1]; exact hW)).mpr ?_
  rw [e1]
  have en : tz_not w 8 0 0 0 = tz_r8 w := rfl
  rcases tz_r8_or (w := w) with c | c
  · have hn : tz_not w 8 0 0 0 = 0 := en.trans c
    have e2 : tz_q8 (tz_r8 w) = 0 := by rw [c]; rfl
    rw [e2]
    refine ⟨fun _ => ?_, fun hx => absurd tz_n0 hx⟩
    exact tl_refA (Q := fun r6 M5 => ((¬ (ts_w r6 = 1) → wX12_vote_B43 Q 0 M5) ∧ (ts_w r6 = 1 → wX12_vote_B43 Q 1 M5))) (D := wX12_votes) hJ hB0 hB hw hHM ⟨by decide, by decide⟩ hn (fun Q m' e hQ => tm_d8 (p1 := 0) (p2 := 0) (p3 := 0) (B := B) (by omega) (by rw [e]; exact hW) (by rw [e]; exact hn) (fun m'' f e2 => by rw [e]; exact hQ m'' f (by rw [e2, e]))) hR (fun m' h1 h2 h3 => tl_n1 (Q := Q) tz_res8 (hQ _ m' h1 h2 (fun _ => ⟨h3, tz_res8⟩)))
  · have hn : tz_not w 8 0 0 0 ≠ 0 := by rw [en, c]; decide
    have e2 : tz_q8 (tz_r8 w) = 1 := by rw [c]; rfl
    rw [e2]
    refine ⟨fun hx => absurd hx (by rw [tz_n1]; decide), fun _ => ?_⟩
    exact tl_refX (Q := fun r8 M7 => ((ts_w r8 ≤ 0 → wX12_vote_B25 Q 0 M7) ∧ (¬ (ts_w r8 ≤ 0) → wX12_vote_B25 Q 1 M7))) hJ hn hR (fun m' h1 h2 h3 => tl_f0 (Q := Q) (hQ 0 m' h1 (by rw [h2, h3, e2]) (fun hx => absurd hx (by rw [h3, e2, tz_n1]; decide))))
theorem tl_c8 (hJ : tz_J B M) (hB0 : 0 ≤ B) (hB : B ≤ 800000000) (hk : tz_K B y5 k28) : wL_law_B724 L xs k28 Q y5 M := by
  have hJ2 := hJ
  obtain ⟨⟨hW, hS⟩, ⟨n, h, hH, hHM⟩, -⟩ := hJ2
  unfold wL_law_B724
  exact tl_B (F := fun Qc m => wL_vote Qc m) (G := fun Q m => wX12_vote Q m) (R := tz_R1 B M n h (M.1 165) (tz_not (M.1 165) 8 0 0 0) (tz_res (M.1 165) 8 0 0 0) (tz_do (M.1 165) 8 0 0 0) (tz_q8 (tz_r8 (M.1 165)))) hk
    (fun Qc hQ => tcl_8 hW hS hH (by omega) hQ)
    (fun Q m o hR hQ => tml_8 hJ hB0 hB rfl hHM hR hQ)
end TLC
