/-! ===== the law's rounds: canMove, orders, the top, the cloth, ranks, minutes ===== -/
section TLS
variable {B B' n y5 o v o0 v0 p p1 p2 x r q k : Int} {L : Nat} {xs : Nat → Int32} {k28 : Int → ts_M → Prop} {Q Qc : Int → ts_M → Prop} {Qv : ts_M → Prop} {X : String → ts_M → Prop} {M M' m : ts_M} {w w' : Int → Int}
theorem tz_fr_0 {S : Nat → Prop} (hF : tz_fr S M m) (h : ¬ S 164) (h0 : M.1 164 0 = v) : m.1 164 0 = v := by rw [tz_fr_1 hF h]; exact h0
theorem tz_fr_5 {S : Nat → Prop} (hF : tz_fr S M m) (h : ¬ S 175) : m.2.1 175 0 = M.2.1 175 0 := by rw [(hF.1 175 h).2]
/-- the smallest top exists -/
theorem tz_tp_ex {s : Nat → Nat → Int} {n : Nat} (hn : n ≤ 6) : ∃ r : Nat, tz_tp s n r := by
  by_cases h0 : n = 0
  · subst h0
    exact ⟨0, by decide, fun h => absurd rfl h, fun i j h1 => absurd h1 (by omega), fun a h1 h2 => absurd h1 (by simp; omega)⟩
  · have key : ∀ (m a : Nat), tz_pc a ≤ m → a < 2 ^ n → a ≠ 0 → tz_ba s n a → ∃ r : Nat, tz_tp s n r := by
      intro m
      induction m with
      | zero =>
        intro a h1 h2 h3 h4
        exact absurd (tz_s_pz (tz_s_64 hn h2) (by omega)) h3
      | succ m ih =>
        intro a h1 h2 h3 h4
        by_cases c : ∃ b : Nat, b < 2 ^ n ∧ b ≠ 0 ∧ tz_ba s n b ∧ tz_pc b < tz_pc a
        · obtain ⟨b, b1, b2, b3, b4⟩ := c
          exact ih b (by omega) b1 b2 b3
        · refine ⟨a, h2, fun _ => h3, h4, fun b b1 b2 b3 => ?_⟩
          by_cases c2 : tz_pc b < tz_pc a
          · exact absurd ⟨b, b1, b2, b3, c2⟩ c
          · omega
    have hp := tz_s_p1 hn
    have h2 : 2 ^ n - 1 ≠ 0 := by
      have : 2 ^ 1 ≤ 2 ^ n := Nat.pow_le_pow_right (by decide) (by omega)
      omega
    exact key (tz_pc (2 ^ n - 1)) (2 ^ n - 1) (Nat.le_refl _) (by omega) h2 (tz_ba_full hn)
theorem tl_c29 (hJ : tz_J B M) (hB : B ≤ 800000000) (b1 : (0 ≤ ts_w (y5 + 1) ∧ ts_w (y5 + 1) < (L : Int))) (b2 : (0 ≤ ts_w (y5 + 2) ∧ ts_w (y5 + 2) < (L : Int))) (hk : tz_K B y5 k28) : wL_law_B1746 L xs k28 Q y5 M := by
  have hW := hJ.1.1
  have hS := hJ.1.2
  have h1 : ts_w (ts_xs xs (ts_w (y5 + 1))) = ts_xs xs (ts_w (y5 + 1)) := tz_xw
  have h2 : ts_w (ts_xs xs (ts_w (y5 + 2))) = ts_xs xs (ts_w (y5 + 2)) := tz_xw
  unfold wL_law_B1746
  generalize ts_xs xs (ts_w (y5 + 1)) = p1 at h1 ⊢
  generalize ts_xs xs (ts_w (y5 + 2)) = p2 at h2 ⊢
  have e1 := (tz_W_2 hW).1
  have hP := tz_S_2 hS
  have hL : tz_L (M.1 165) := tz_L_of (by omega) hW
  have hi : ∀ i : Int, 0 ≤ i → i < M.1 165 1 → M.1 (0 + 7) i = tz_pi (M.1 165) i := fun i h4 h5 => (hP.2.2 i h4 h5).1
  have hp : ∀ i : Int, 0 ≤ i → i < M.1 165 1 → M.1 (0 + 8) i = tz_pp (M.1 165) i := fun i h4 h5 => (hP.2.2 i h4 h5).2
  rcases tz_pl_rng (v := p1) e1.2 with c | c
  · exact tl_RI (F := fun Qc m => (0 ≤ ts_w (y5 + 1) ∧ ts_w (y5 + 1) < (L : Int)) ∧ (0 ≤ ts_w (y5 + 2) ∧ ts_w (y5 + 2) < (L : Int)) ∧ wL_support p1 p2 Qc m) (G := fun Q m => (0 ≤ ts_w (y5 + 1) ∧ ts_w (y5 + 1) < (L : Int)) ∧ (0 ≤ ts_w (y5 + 2) ∧ ts_w (y5 + 2) < (L : Int)) ∧ wX12_support p1 p2 Q m) (o0 := 1) (v0 := 0) hJ hk
      (fun Qc hQ => ⟨b1, b2, by
        unfold wL_support wX11_support
        exact tc_checkOnList hW hB hS h1 (fun h _ => absurd c (by omega)) (fun _ => ⟨rfl, tz_B_no hQ tz_nz1⟩)⟩)
      (fun Q m hq hQ => ⟨b1, b2, by
        unfold wX12_support
        intro M1 e
        have r1 : M1.1 165 = M.1 165 := by rw [e, ts_si_ne (by decide), tz_Q_row hq]
        refine (tm_place (by rw [r1]; exact hL) h1).mpr ?_
        rw [r1]
        rw [c, tz_nm]
        refine ⟨fun _ => ?_, fun h => absurd (by decide) h⟩
        unfold wX12_support_B21
        rw [e]
        exact tz_A_no hQ tz_nz1⟩)
  · rcases tz_pl_rng (v := p2) e1.2 with c2 | c2
    · exact tl_RI (F := fun Qc m => (0 ≤ ts_w (y5 + 1) ∧ ts_w (y5 + 1) < (L : Int)) ∧ (0 ≤ ts_w (y5 + 2) ∧ ts_w (y5 + 2) < (L : Int)) ∧ wL_support p1 p2 Qc m) (G := fun Q m => (0 ≤ ts_w (y5 + 1) ∧ ts_w (y5 + 1) < (L : Int)) ∧ (0 ≤ ts_w (y5 + 2) ∧ ts_w (y5 + 2) < (L : Int)) ∧ wX12_support p1 p2 Q m) (o0 := 1) (v0 := 0) hJ hk
        (fun Qc hQ => ⟨b1, b2, by
          unfold wL_support wX11_support
          refine tc_checkOnList hW hB hS h1 (fun _ _ => ?_) (fun hn => absurd hn (by omega))
          exact tc_checkOnList hW hB hS h2 (fun h _ => absurd c2 (by omega)) (fun _ => ⟨rfl, tz_B_no hQ tz_nz1⟩)⟩)
        (fun Q m hq hQ => ⟨b1, b2, by
          unfold wX12_support
          intro M1 e
          have r1 : M1.1 165 = M.1 165 := by rw [e, ts_si_ne (by decide), tz_Q_row hq]
          refine (tm_place (by rw [r1]; exact hL) h1).mpr ?_
          rw [r1]
          rw [tz_n (x := tz_pl (M.1 165) p1) (by omega) (by omega)]
          refine ⟨fun h => absurd h (by omega), fun _ => ?_⟩
          refine (tm_place (by rw [r1]; exact hL) h2).mpr ?_
          rw [r1]
          rw [c2, tz_nm]
          refine ⟨fun h => absurd h (by decide), fun _ => ?_⟩
          unfold wX12_support_B21
          rw [e]
          exact tz_A_no hQ tz_nz1⟩)
    · exact tl_RI (F := fun Qc m => (0 ≤ ts_w (y5 + 1) ∧ ts_w (y5 + 1) < (L : Int)) ∧ (0 ≤ ts_w (y5 + 2) ∧ ts_w (y5 + 2) < (L : Int)) ∧ wL_support p1 p2 Qc m) (G := fun Q m => (0 ≤ ts_w (y5 + 1) ∧ ts_w (y5 + 1) < (L : Int)) ∧ (0 ≤ ts_w (y5 + 2) ∧ ts_w (y5 + 2) < (L : Int)) ∧ wX12_support p1 p2 Q m) (o0 := 0) (v0 := tz_sp (M.1 165) (tz_pp (M.1 165) (tz_pl (M.1 165) p1)) (tz_pp (M.1 165) (tz_pl (M.1 165) p2))) hJ hk
        (fun Qc hQ => ⟨b1, b2, by
          unfold wL_support wX11_support
          refine tc_checkOnList hW hB hS h1 (fun _ _ => ?_) (fun hn => absurd hn (by omega))
          refine tc_checkOnList hW hB hS h2 (fun _ _ => ?_) (fun hn => absurd hn (by omega))
          refine (tc_positionOf (b := 0) hP.1 hL hi hp).mpr ?_
          refine (tc_positionOf (b := 0) hP.1 hL hi hp).mpr ?_
          have q1 : tz_po (M.1 165) (ts_w p1) = tz_pp (M.1 165) (tz_pl (M.1 165) p1) := by rw [h1]; exact if_neg (by omega)
          have q2 : tz_po (M.1 165) (ts_w p2) = tz_pp (M.1 165) (tz_pl (M.1 165) p2) := by rw [h2]; exact if_neg (by omega)
          refine tc_preferring hW hS (tz_po_rng hL) (tz_po_rng hL) ?_
          rw [q1, q2]
          exact tz_B_ok hQ tz_Q_rfl⟩)
        (fun Q m hq hQ => ⟨b1, b2, by
          unfold wX12_support
          intro M1 e
          have r1 : M1.1 165 = M.1 165 := by rw [e, ts_si_ne (by decide), tz_Q_row hq]
          refine (tm_place (by rw [r1]; exact hL) h1).mpr ?_
          rw [r1]
          rw [tz_n (x := tz_pl (M.1 165) p1) (by omega) (by omega)]
          refine ⟨fun h => absurd h (by omega), fun _ => ?_⟩
          refine (tm_place (by rw [r1]; exact hL) h2).mpr ?_
          rw [r1]
          rw [tz_n (x := tz_pl (M.1 165) p2) (by omega) (by omega)]
          refine ⟨fun _ => ?_, fun h => absurd c2.1 h⟩
          refine (tm_place (by rw [r1]; exact hL) h1).mpr ?_
          rw [r1]
          refine (tm_place (by rw [r1]; exact hL) h2).mpr ?_
          rw [r1]
          obtain ⟨j1, ej1⟩ : ∃ j : Nat, tz_pl (M.1 165) p1 = (j : Int) := ⟨_, (Int.toNat_of_nonneg c.1).symm⟩
          obtain ⟨j2, ej2⟩ : ∃ j : Nat, tz_pl (M.1 165) p2 = (j : Int) := ⟨_, (Int.toNat_of_nonneg c2.1).symm⟩
          rw [ej1, ej2] at hQ ⊢
          refine tm_supports (B := B) (by rw [r1]; exact hW) (by rw [r1]; omega) (by rw [r1]; omega) ?_
          rw [r1, e]
          exact tz_A_ok hQ⟩)
theorem tl_c32 (hJ : tz_J B M) (hB : B ≤ 800000000) (b1 : (0 ≤ ts_w (y5 + 1) ∧ ts_w (y5 + 1) < (L : Int))) (hk : tz_K B y5 k28) : wL_law_B1840 L xs k28 Q y5 M := by
  have hW := hJ.1.1
  have hS := hJ.1.2
  have h1 : ts_w (ts_xs xs (ts_w (y5 + 1))) = ts_xs xs (ts_w (y5 + 1)) := tz_xw
  unfold wL_law_B1840
  generalize ts_xs xs (ts_w (y5 + 1)) = p1 at h1 ⊢
  have e1 := (tz_W_2 hW).1
  have hP := tz_S_2 hS
  have hnn := tz_nn_6 hW
  by_cases c : 0 ≤ p1 ∧ p1 < M.1 165 1
  · exact tl_RI (F := fun Qc m => (0 ≤ ts_w (y5 + 1) ∧ ts_w (y5 + 1) < (L : Int)) ∧ wL_bestOrder p1 Qc m) (G := fun Q m => (0 ≤ ts_w (y5 + 1) ∧ ts_w (y5 + 1) < (L : Int)) ∧ wX12_bestOrder p1 Q m) (o0 := 0) (v0 := tz_id (M.1 165) (tz_bq (tz_ss (M.1 165)) (tz_nn (M.1 165)) (tz_id (M.1 165)) (tz_lv (tz_ss (M.1 165)) (tz_nn (M.1 165)) (tz_id (M.1 165)) p1.toNat))) hJ hk
      (fun Qc hQ => ⟨b1, by
        unfold wL_bestOrder wX11_bestOrder
        refine tc_checkPlace hW hS h1 (fun _ => ?_) (fun hn => absurd c hn)
        refine tc_survey hW hS (by decide) (fun m f hSV => ?_)
        obtain ⟨j, ej⟩ : ∃ j : Nat, p1 = (j : Int) := ⟨_, (Int.toNat_of_nonneg c.1).symm⟩
        subst ej
        refine tc_inBest (b := 0) hSV (tz_id_ID hW (by omega)) (fun i hi => ?_) (by decide) (by omega) (fun m2 f2 => ?_)
        · rw [tz_fr_1 f (by decide)]
          exact (hP.2.2 (i : Int) (by omega) (by omega)).1
        · exact tz_B_ok hQ (tz_Q_tr (tz_Q_fr f (fun a h => by omega)) (tz_Q_fr f2 (fun a h => by omega)))⟩)
      (fun Q m hq hQ => ⟨b1, by
        refine tm_bestOrder (tz_Q_W hW hq) (by omega) h1 (fun h => ?_) (fun _ _ m' f => ?_)
        · rw [tz_Q_row hq] at h; exact absurd c h
        · rw [tz_Q_row hq]
          exact tz_A_okQ hQ (tz_Q_fr f (fun a h => by omega)) (tz_fr_0 f (by decide) tz_si_a) (by rw [tz_fr_5 f (by decide)]; rfl)⟩)
  · exact tl_RI (F := fun Qc m => (0 ≤ ts_w (y5 + 1) ∧ ts_w (y5 + 1) < (L : Int)) ∧ wL_bestOrder p1 Qc m) (G := fun Q m => (0 ≤ ts_w (y5 + 1) ∧ ts_w (y5 + 1) < (L : Int)) ∧ wX12_bestOrder p1 Q m) (o0 := 1) (v0 := 0) hJ hk
      (fun Qc hQ => ⟨b1, by
        unfold wL_bestOrder wX11_bestOrder
        exact tc_checkPlace hW hS h1 (fun h => absurd h c) (fun _ => ⟨rfl, tz_B_no hQ tz_nz1⟩)⟩)
      (fun Q m hq hQ => ⟨b1, by
        refine tm_bestOrder (tz_Q_W hW hq) (by omega) h1 (fun h => tz_A_no0 hQ tz_nz1) (fun h4 h5 m' f => ?_)
        rw [tz_Q_row hq] at h5
        exact absurd ⟨h4, h5⟩ c⟩)
theorem tl_c33 (hJ : tz_J B M) (hB : B ≤ 800000000) (b1 : (0 ≤ ts_w (y5 + 1) ∧ ts_w (y5 + 1) < (L : Int))) (hk : tz_K B y5 k28) : wL_law_B1896 L xs k28 Q y5 M := by
  have hW := hJ.1.1
  have hS := hJ.1.2
  have h1 : ts_w (ts_xs xs (ts_w (y5 + 1))) = ts_xs xs (ts_w (y5 + 1)) := tz_xw
  unfold wL_law_B1896
  generalize ts_xs xs (ts_w (y5 + 1)) = p1 at h1 ⊢
  have e1 := (tz_W_2 hW).1
  have hP := tz_S_2 hS
  have hL : tz_L (M.1 165) := tz_L_of (by omega) hW
  have hnn := tz_nn_6 hW
  obtain ⟨r0, hr0⟩ := tz_tp_ex (s := tz_ss (M.1 165)) hnn.2
  rcases tz_pl_rng (v := p1) e1.2 with c | c
  · exact tl_RB (F := fun Qc m => (0 ≤ ts_w (y5 + 1) ∧ ts_w (y5 + 1) < (L : Int)) ∧ wL_isInTop p1 Qc m) (G := fun Q m => (0 ≤ ts_w (y5 + 1) ∧ ts_w (y5 + 1) < (L : Int)) ∧ wX12_isInTop p1 Q m) (o0 := 1) (v0 := 0) hJ hk (Or.inl rfl)
      (fun Qc hQ => ⟨b1, by
        unfold wL_isInTop wX11_isInTop
        exact tc_checkOnList hW hB hS h1 (fun h _ => absurd c (by omega)) (fun _ => ⟨rfl, tz_B_no hQ tz_nz1⟩)⟩)
      (fun Q m hq hQ => ⟨b1, by
        refine tm_isInTop (tz_Q_W hW hq) (by omega) h1 (fun _ => tz_A_no0 hQ tz_nz1) (fun h => ?_)
        rw [tz_Q_row hq, c] at h
        exact absurd h (by decide)⟩)
  · exact tl_RB (F := fun Qc m => (0 ≤ ts_w (y5 + 1) ∧ ts_w (y5 + 1) < (L : Int)) ∧ wL_isInTop p1 Qc m) (G := fun Q m => (0 ≤ ts_w (y5 + 1) ∧ ts_w (y5 + 1) < (L : Int)) ∧ wX12_isInTop p1 Q m) (o0 := 0) (v0 := tz_i (r0.testBit (tz_pl (M.1 165) p1).toNat)) hJ hk (of_eq_true tz_i01)
      (fun Qc hQ => ⟨b1, by
        unfold wL_isInTop wX11_isInTop
        refine tc_checkOnList hW hB hS h1 (fun _ _ => ?_) (fun hn => absurd hn (by omega))
        refine tc_survey hW hS (by decide) (fun m f hSV => ?_)
        have hJm := tz_J_q hJ (tz_Q_fr f (fun a h => by omega))
        have rm : m.1 165 = M.1 165 := tz_fr_1 f (by decide)
        have hPm := tz_S_2 hJm.1.2
        rw [rm] at hPm
        refine (tc_placeOf (b := 0) hPm.1 hL (fun i h4 h5 => (hPm.2.2 i h4 h5).1)).mpr ?_
        rw [h1]
        obtain ⟨j, ej⟩ : ∃ j : Nat, tz_pl (M.1 165) p1 = (j : Int) := ⟨_, (Int.toNat_of_nonneg c.1).symm⟩
        rw [ej] at hQ ⊢
        rw [show ((j : Int)).toNat = j from rfl] at hQ
        refine tc_leads hSV (by omega) hr0 ?_
        exact ⟨tz_bw01 (of_eq_true tz_i01), tz_B_okb hQ (of_eq_true tz_i01) (tz_Q_fr f (fun a h => by omega))⟩⟩)
      (fun Q m hq hQ => ⟨b1, by
        refine tm_isInTop (tz_Q_W hW hq) (by omega) h1 (fun h => ?_) (fun _ r hr => ?_)
        · rw [tz_Q_row hq] at h; exact absurd h (by omega)
        · rw [tz_Q_row hq] at hr ⊢
          rw [tz_tp_one hnn.2 hr hr0]
          exact tz_A_ok hQ⟩)
theorem tl_c34 (hJ : tz_J B M) (hB : B ≤ 800000000) (b1 : (0 ≤ ts_w (y5 + 1) ∧ ts_w (y5 + 1) < (L : Int))) (hk : tz_K B y5 k28) : wL_law_B1959 L xs k28 Q y5 M := by
  have hW := hJ.1.1
  have hS := hJ.1.2
  have h1 : ts_w (ts_xs xs (ts_w (y5 + 1))) = ts_xs xs (ts_w (y5 + 1)) := tz_xw
  unfold wL_law_B1959
  generalize ts_xs xs (ts_w (y5 + 1)) = p1 at h1 ⊢
  have e1 := (tz_W_2 hW).1
  have hP := tz_S_2 hS
  have hL : tz_L (M.1 165) := tz_L_of (by omega) hW
  have hnn := tz_nn_6 hW
  obtain ⟨r0, hr0⟩ := tz_tp_ex (s := tz_ss (M.1 165)) hnn.2
  rcases tz_pl_rng (v := p1) e1.2 with c | c
  · exact tl_RB (F := fun Qc m => (0 ≤ ts_w (y5 + 1) ∧ ts_w (y5 + 1) < (L : Int)) ∧ wL_isInTopBySets p1 Qc m) (G := fun Q m => (0 ≤ ts_w (y5 + 1) ∧ ts_w (y5 + 1) < (L : Int)) ∧ wX12_isInTopBySets p1 Q m) (o0 := 1) (v0 := 0) hJ hk (Or.inl rfl)
      (fun Qc hQ => ⟨b1, by
        unfold wL_isInTopBySets wX11_isInTopBySets
        exact tc_checkOnList hW hB hS h1 (fun h _ => absurd c (by omega)) (fun _ => ⟨rfl, tz_B_no hQ tz_nz1⟩)⟩)
      (fun Q m hq hQ => ⟨b1, by
        unfold wX12_isInTopBySets
        refine tm_isInTop (tz_Q_W hW hq) (by omega) h1 (fun _ => ⟨Or.inl tz_n0, tz_A_no0 hQ tz_nz1⟩) (fun h => ?_)
        rw [tz_Q_row hq, c] at h
        exact absurd h (by decide)⟩)
  · exact tl_RB (F := fun Qc m => (0 ≤ ts_w (y5 + 1) ∧ ts_w (y5 + 1) < (L : Int)) ∧ wL_isInTopBySets p1 Qc m) (G := fun Q m => (0 ≤ ts_w (y5 + 1) ∧ ts_w (y5 + 1) < (L : Int)) ∧ wX12_isInTopBySets p1 Q m) (o0 := 0) (v0 := tz_i (r0.testBit (tz_pl (M.1 165) p1).toNat)) hJ hk (of_eq_true tz_i01)
      (fun Qc hQ => ⟨b1, by
        unfold wL_isInTopBySets wX11_isInTopBySets
        refine tc_checkOnList hW hB hS h1 (fun _ _ => ?_) (fun hn => absurd hn (by omega))
        refine tc_survey hW hS (by decide) (fun m f hSV => ?_)
        have hJm := tz_J_q hJ (tz_Q_fr f (fun a h => by omega))
        have rm : m.1 165 = M.1 165 := tz_fr_1 f (by decide)
        have hPm := tz_S_2 hJm.1.2
        rw [rm] at hPm
        refine (tc_placeOf (b := 0) hPm.1 hL (fun i h4 h5 => (hPm.2.2 i h4 h5).1)).mpr ?_
        rw [h1]
        obtain ⟨j, ej⟩ : ∃ j : Nat, tz_pl (M.1 165) p1 = (j : Int) := ⟨_, (Int.toNat_of_nonneg c.1).symm⟩
        rw [ej] at hQ ⊢
        rw [show ((j : Int)).toNat = j from rfl] at hQ
        refine tc_smallest hSV (fun r hr => ?_)
        rw [tz_tp_one hnn.2 hr hr0]
        refine (tc_isIn (tz_s_64 hnn.2 hr0.1) (by omega)).mpr ?_
        exact ⟨tz_bw01 (of_eq_true tz_i01), tz_B_okb hQ (of_eq_true tz_i01) (tz_Q_fr f (fun a h => by omega))⟩⟩)
      (fun Q m hq hQ => ⟨b1, by
        unfold wX12_isInTopBySets
        refine tm_isInTop (tz_Q_W hW hq) (by omega) h1 (fun h => ?_) (fun _ r hr => ?_)
        · rw [tz_Q_row hq] at h; exact absurd h (by omega)
        · rw [tz_Q_row hq] at hr ⊢
          rw [tz_tp_one hnn.2 hr hr0]
          exact ⟨tz_bw01 (of_eq_true tz_i01), tz_A_ok hQ⟩⟩)
theorem tl_c35 (hJ : tz_J B M) (hB : B ≤ 800000000) (b1 : (0 ≤ ts_w (y5 + 1) ∧ ts_w (y5 + 1) < (L : Int))) (b2 : (0 ≤ ts_w (y5 + 2) ∧ ts_w (y5 + 2) < (L : Int))) (hk : tz_K B y5 k28) : wL_law_B2022 L xs k28 Q y5 M := by
  have hW := hJ.1.1
  have hS := hJ.1.2
  have h1 : ts_w (ts_xs xs (ts_w (y5 + 1))) = ts_xs xs (ts_w (y5 + 1)) := tz_xw
  have h2 : ts_w (ts_xs xs (ts_w (y5 + 2))) = ts_xs xs (ts_w (y5 + 2)) := tz_xw
  unfold wL_law_B2022
  generalize ts_xs xs (ts_w (y5 + 1)) = p1 at h1 ⊢
  generalize ts_xs xs (ts_w (y5 + 2)) = p2 at h2 ⊢
  by_cases c : (0 ≤ p1 ∧ p1 ≤ 7) ∧ 0 ≤ p2 ∧ p2 ≤ 7
  · exact tl_RB (F := fun Qc m => (0 ≤ ts_w (y5 + 1) ∧ ts_w (y5 + 1) < (L : Int)) ∧ (0 ≤ ts_w (y5 + 2) ∧ ts_w (y5 + 2) < (L : Int)) ∧ wL_isWet p1 p2 Qc m) (G := fun Q m => (0 ≤ ts_w (y5 + 1) ∧ ts_w (y5 + 1) < (L : Int)) ∧ (0 ≤ ts_w (y5 + 2) ∧ ts_w (y5 + 2) < (L : Int)) ∧ wX12_isWet p1 p2 Q m) (o0 := 0) (v0 := tz_wc (M.1 165) p1 p2) hJ hk (by have hwc : 0 ≤ tz_wc (M.1 165) p1 p2 ∧ tz_wc (M.1 165) p1 p2 ≤ 1 := tz_W_4 hW (8 * p1 + p2) (by omega) (by omega); omega)
      (fun Qc hQ => ⟨b1, b2, by
        have hwc : 0 ≤ tz_wc (M.1 165) p1 p2 ∧ tz_wc (M.1 165) p1 p2 ≤ 1 := tz_W_4 hW (8 * p1 + p2) (by omega) (by omega)
        unfold wL_isWet wX11_isWet wX1_wetAt wX1_cell
        refine tc_checkCell h1 h2 (fun _ => ?_) (fun hn => absurd c hn)
        have hx := tz_wet_at (b := 0) hS c.1 c.2
        refine ⟨fun h => ?_, fun h => ?_⟩
        · have e0 : tz_wc (M.1 165) p1 p2 = 0 := by
            have := hx.mp h
            omega
          rw [e0] at hQ
          exact ⟨Or.inl tz_n0, tz_B_okb hQ (Or.inl rfl) tz_Q_rfl⟩
        · have e0 : tz_wc (M.1 165) p1 p2 = 1 := by
            by_cases c3 : tz_wc (M.1 165) p1 p2 = 1
            · exact c3
            · exact absurd (hx.mpr c3) h
          rw [e0] at hQ
          exact ⟨Or.inr tz_n1, tz_B_okb hQ (Or.inr rfl) tz_Q_rfl⟩⟩)
      (fun Q m hq hQ => ⟨b1, b2, by
        have hwc : 0 ≤ tz_wc (M.1 165) p1 p2 ∧ tz_wc (M.1 165) p1 p2 ≤ 1 := tz_W_4 hW (8 * p1 + p2) (by omega) (by omega)
        unfold wX12_isWet
        intro M1 e
        have r1 : M1.1 165 = M.1 165 := by rw [e, ts_si_ne (by decide), tz_Q_row hq]
        refine (tm_isCell h1 h2).mpr ?_
        rw [tz_in_t.mpr c.1, tz_in_t.mpr c.2, show (true && true) = true from rfl, tz_i1, tz_n1]
        refine ⟨fun _ => ?_, fun h => absurd h (by decide)⟩
        rw [show (82 + (8 * p1)) + p2 = 82 + (8 * p1 + p2) by omega, tz_n (x := 82 + (8 * p1 + p2)) (by omega) (by omega), r1]
        have e0 : M.1 165 (82 + (8 * p1 + p2)) = tz_wc (M.1 165) p1 p2 := rfl
        rw [e0]
        refine ⟨by omega, ?_⟩
        rw [e]
        have hb : tz_wc (M.1 165) p1 p2 = 0 ∨ tz_wc (M.1 165) p1 p2 = 1 := by omega
        exact tl_n1 (Q := Q) hb (tz_A_ok hQ)⟩)
  · exact tl_RB (F := fun Qc m => (0 ≤ ts_w (y5 + 1) ∧ ts_w (y5 + 1) < (L : Int)) ∧ (0 ≤ ts_w (y5 + 2) ∧ ts_w (y5 + 2) < (L : Int)) ∧ wL_isWet p1 p2 Qc m) (G := fun Q m => (0 ≤ ts_w (y5 + 1) ∧ ts_w (y5 + 1) < (L : Int)) ∧ (0 ≤ ts_w (y5 + 2) ∧ ts_w (y5 + 2) < (L : Int)) ∧ wX12_isWet p1 p2 Q m) (o0 := 1) (v0 := 0) hJ hk (Or.inl rfl)
      (fun Qc hQ => ⟨b1, b2, by
        unfold wL_isWet wX11_isWet
        exact tc_checkCell h1 h2 (fun h => absurd h c) (fun _ => ⟨rfl, tz_B_no hQ tz_nz1⟩)⟩)
      (fun Q m hq hQ => ⟨b1, b2, by
        unfold wX12_isWet
        intro M1 e
        have r1 : M1.1 165 = M.1 165 := by rw [e, ts_si_ne (by decide), tz_Q_row hq]
        refine (tm_isCell h1 h2).mpr ?_
        have ef : (tz_in 0 p1 7 && tz_in 0 p2 7) = false := by
          by_cases c1 : 0 ≤ p1 ∧ p1 ≤ 7
          · rw [tz_in_f.mpr (fun c2 => c ⟨c1, c2⟩), Bool.and_false]
          · rw [tz_in_f.mpr c1, Bool.false_and]
        rw [ef, tz_i0, tz_n0]
        refine ⟨fun h => absurd rfl h, fun _ => ?_⟩
        rw [e]
        exact tz_A_nof hQ tz_nz1⟩)
theorem tm_puddle_y (hW : tz_W B (m.1 165)) (h1 : ts_w p1 = p1) (h2 : ts_w p2 = p2) (c : (0 ≤ p1 ∧ p1 ≤ 7) ∧ 0 ≤ p2 ∧ p2 ≤ 7) (hA : tz_A m 0 (tz_pz (m.1 165) (8 * p1 + p2).toNat) Q) : wX12_puddle p1 p2 Q m := by
  unfold wX12_puddle
  intro M1 e
  have r1 : M1.1 165 = m.1 165 := by rw [e, ts_si_ne (by decide)]
  refine (tm_isCell h1 h2).mpr ?_
  rw [tz_in_t.mpr c.1, tz_in_t.mpr c.2, show (true && true) = true from rfl, tz_i1, tz_n1]
  refine ⟨fun h => absurd h (by decide), fun _ => ?_⟩
  obtain ⟨s, es⟩ : ∃ s : Nat, 8 * p1 + p2 = (s : Int) := ⟨_, (Int.toNat_of_nonneg (by omega)).symm⟩
  rw [es] at hA ⊢
  refine tm_marks (s := s) (by omega) (by rw [r1]; exact tz_W_4 hW) (fun m' f _ => ?_)
  rw [r1]
  rw [e] at f
  exact tz_A_okQ hA (tz_Q_FK f) (by rw [f.1 164 (by decide)]; exact tz_si_a) (by rw [f.2]; rfl)
theorem tm_puddle_n (h1 : ts_w p1 = p1) (h2 : ts_w p2 = p2) (c : ¬ ((0 ≤ p1 ∧ p1 ≤ 7) ∧ 0 ≤ p2 ∧ p2 ≤ 7)) (hA : tz_A m 1 v0 Q) : wX12_puddle p1 p2 Q m := by
  unfold wX12_puddle
  intro M1 e
  refine (tm_isCell h1 h2).mpr ?_
  have ef : (tz_in 0 p1 7 && tz_in 0 p2 7) = false := by
    by_cases c1 : 0 ≤ p1 ∧ p1 ≤ 7
    · rw [tz_in_f.mpr (fun c2 => c ⟨c1, c2⟩), Bool.and_false]
    · rw [tz_in_f.mpr c1, Bool.false_and]
  rw [ef, tz_i0, tz_n0]
  refine ⟨fun _ => ?_, fun h => absurd rfl h⟩
  rw [e]
  exact tz_A_no hA tz_nz1
/-- a puddle's size, as the class counts it -/
theorem tz_pz_of (hS : tz_S 0 M w) {s : Nat} (hs : s < 64) {r : Int64} (hr : ∀ k : Nat, k < 64 → (tz_bit r k = true ↔ tz_cp (tz_bit (M.2.1 (0 + 11) 0)) s k)) : tz_sum (fun k => tz_i (tz_bit r k.toNat)) 64 = tz_pz w s := by
  rw [tz_sz_bit hr]
  exact tz_sz_eq (fun k _ => tz_cp_congr (tz_P4_wb (tz_S_4 hS)) hs)
theorem tl_c37 (hJ : tz_J B M) (hB : B ≤ 800000000) (b1 : (0 ≤ ts_w (y5 + 1) ∧ ts_w (y5 + 1) < (L : Int))) (b2 : (0 ≤ ts_w (y5 + 2) ∧ ts_w (y5 + 2) < (L : Int))) (hk : tz_K B y5 k28) : wL_law_B2110 L xs k28 Q y5 M := by
  have hW := hJ.1.1
  have hS := hJ.1.2
  have h1 : ts_w (ts_xs xs (ts_w (y5 + 1))) = ts_xs xs (ts_w (y5 + 1)) := tz_xw
  have h2 : ts_w (ts_xs xs (ts_w (y5 + 2))) = ts_xs xs (ts_w (y5 + 2)) := tz_xw
  unfold wL_law_B2110
  generalize ts_xs xs (ts_w (y5 + 1)) = p1 at h1 ⊢
  generalize ts_xs xs (ts_w (y5 + 2)) = p2 at h2 ⊢
  by_cases c : (0 ≤ p1 ∧ p1 ≤ 7) ∧ 0 ≤ p2 ∧ p2 ≤ 7
  · exact tl_RI (F := fun Qc m => (0 ≤ ts_w (y5 + 1) ∧ ts_w (y5 + 1) < (L : Int)) ∧ (0 ≤ ts_w (y5 + 2) ∧ ts_w (y5 + 2) < (L : Int)) ∧ wL_puddle p1 p2 Qc m) (G := fun Q m => (0 ≤ ts_w (y5 + 1) ∧ ts_w (y5 + 1) < (L : Int)) ∧ (0 ≤ ts_w (y5 + 2) ∧ ts_w (y5 + 2) < (L : Int)) ∧ wX12_puddle p1 p2 Q m) (o0 := 0) (v0 := tz_pz (M.1 165) (8 * p1 + p2).toNat) hJ hk
      (fun Qc hQ => ⟨b1, b2, by
        unfold wL_puddle wX11_puddle wX1_cell
        refine tc_checkCell h1 h2 (fun _ => ?_) (fun hn => absurd c hn)
        obtain ⟨a, ea⟩ : ∃ s : Nat, p1 = (s : Int) := ⟨_, (Int.toNat_of_nonneg c.1.1).symm⟩
        obtain ⟨b, eb⟩ : ∃ s : Nat, p2 = (s : Int) := ⟨_, (Int.toNat_of_nonneg c.2.1).symm⟩
        have es : (8 * p1 + p2).toNat = 8 * a + b := by omega
        rw [es] at hQ
        rw [ea, eb]
        have hb := tz_cellb (r := a) (c := b) (by omega) (by omega)
        refine tc_walk (a := 8 * a + b) (by omega) hb (fun r hr => ?_)
        refine tz_pop.mpr ?_
        rw [tz_pz_of hS (by omega) hr]
        exact tz_B_ok hQ tz_Q_rfl⟩)
      (fun Q m hq hQ => ⟨b1, b2, by
        exact tm_puddle_y (tz_Q_W hW hq) h1 h2 c (by rw [tz_Q_row hq]; exact hQ)⟩)
  · exact tl_RI (F := fun Qc m => (0 ≤ ts_w (y5 + 1) ∧ ts_w (y5 + 1) < (L : Int)) ∧ (0 ≤ ts_w (y5 + 2) ∧ ts_w (y5 + 2) < (L : Int)) ∧ wL_puddle p1 p2 Qc m) (G := fun Q m => (0 ≤ ts_w (y5 + 1) ∧ ts_w (y5 + 1) < (L : Int)) ∧ (0 ≤ ts_w (y5 + 2) ∧ ts_w (y5 + 2) < (L : Int)) ∧ wX12_puddle p1 p2 Q m) (o0 := 1) (v0 := 0) hJ hk
      (fun Qc hQ => ⟨b1, b2, by
        unfold wL_puddle wX11_puddle
        exact tc_checkCell h1 h2 (fun h => absurd h c) (fun _ => ⟨rfl, tz_B_no hQ tz_nz1⟩)⟩)
      (fun Q m hq hQ => ⟨b1, b2, by
        exact tm_puddle_n h1 h2 c hQ⟩)
theorem tl_c38 (hJ : tz_J B M) (hB : B ≤ 800000000) (b1 : (0 ≤ ts_w (y5 + 1) ∧ ts_w (y5 + 1) < (L : Int))) (b2 : (0 ≤ ts_w (y5 + 2) ∧ ts_w (y5 + 2) < (L : Int))) (hk : tz_K B y5 k28) : wL_law_B2178 L xs k28 Q y5 M := by
  have hW := hJ.1.1
  have hS := hJ.1.2
  have h1 : ts_w (ts_xs xs (ts_w (y5 + 1))) = ts_xs xs (ts_w (y5 + 1)) := tz_xw
  have h2 : ts_w (ts_xs xs (ts_w (y5 + 2))) = ts_xs xs (ts_w (y5 + 2)) := tz_xw
  unfold wL_law_B2178
  generalize ts_xs xs (ts_w (y5 + 1)) = p1 at h1 ⊢
  generalize ts_xs xs (ts_w (y5 + 2)) = p2 at h2 ⊢
  by_cases c : (0 ≤ p1 ∧ p1 ≤ 7) ∧ 0 ≤ p2 ∧ p2 ≤ 7
  · exact tl_RI (F := fun Qc m => (0 ≤ ts_w (y5 + 1) ∧ ts_w (y5 + 1) < (L : Int)) ∧ (0 ≤ ts_w (y5 + 2) ∧ ts_w (y5 + 2) < (L : Int)) ∧ wL_puddleByGroups p1 p2 Qc m) (G := fun Q m => (0 ≤ ts_w (y5 + 1) ∧ ts_w (y5 + 1) < (L : Int)) ∧ (0 ≤ ts_w (y5 + 2) ∧ ts_w (y5 + 2) < (L : Int)) ∧ wX12_puddleByGroups p1 p2 Q m) (o0 := 0) (v0 := tz_pz (M.1 165) (8 * p1 + p2).toNat) hJ hk
      (fun Qc hQ => ⟨b1, b2, by
        unfold wL_puddleByGroups wX11_puddleByGroups wX1_cell
        refine tc_checkCell h1 h2 (fun _ => ?_) (fun hn => absurd c hn)
        obtain ⟨a, ea⟩ : ∃ s : Nat, p1 = (s : Int) := ⟨_, (Int.toNat_of_nonneg c.1.1).symm⟩
        obtain ⟨b, eb⟩ : ∃ s : Nat, p2 = (s : Int) := ⟨_, (Int.toNat_of_nonneg c.2.1).symm⟩
        have es : (8 * p1 + p2).toNat = 8 * a + b := by omega
        rw [es] at hQ
        rw [ea, eb]
        have hb := tz_cellb (r := a) (c := b) (by omega) (by omega)
        refine tc_joinGroups (fun m f hG => ?_)
        refine tc_groupOf (s := 8 * a + b) (by omega) hb hG (fun r hr => ?_)
        refine tz_pop.mpr ?_
        rw [tz_pz_of hS (by omega) hr]
        exact tz_B_ok hQ (tz_Q_FG f)⟩)
      (fun Q m hq hQ => ⟨b1, b2, by
        unfold wX12_puddleByGroups
        exact tm_puddle_y (tz_Q_W hW hq) h1 h2 c (by rw [tz_Q_row hq]; exact hQ)⟩)
  · exact tl_RI (F := fun Qc m => (0 ≤ ts_w (y5 + 1) ∧ ts_w (y5 + 1) < (L : Int)) ∧ (0 ≤ ts_w (y5 + 2) ∧ ts_w (y5 + 2) < (L : Int)) ∧ wL_puddleByGroups p1 p2 Qc m) (G := fun Q m => (0 ≤ ts_w (y5 + 1) ∧ ts_w (y5 + 1) < (L : Int)) ∧ (0 ≤ ts_w (y5 + 2) ∧ ts_w (y5 + 2) < (L : Int)) ∧ wX12_puddleByGroups p1 p2 Q m) (o0 := 1) (v0 := 0) hJ hk
      (fun Qc hQ => ⟨b1, b2, by
        unfold wL_puddleByGroups wX11_puddleByGroups
        exact tc_checkCell h1 h2 (fun h => absurd h c) (fun _ => ⟨rfl, tz_B_no hQ tz_nz1⟩)⟩)
      (fun Q m hq hQ => ⟨b1, b2, by
        unfold wX12_puddleByGroups
        exact tm_puddle_n h1 h2 c hQ⟩)
theorem tl_c41 (hJ : tz_J B M) (hB : B ≤ 800000000) (b1 : (0 ≤ ts_w (y5 + 1) ∧ ts_w (y5 + 1) < (L : Int))) (hk : tz_K B y5 k28) : wL_law_B2272 L xs k28 Q y5 M := by
  have hW := hJ.1.1
  have hS := hJ.1.2
  have h1 : ts_w (ts_xs xs (ts_w (y5 + 1))) = ts_xs xs (ts_w (y5 + 1)) := tz_xw
  unfold wL_law_B2272
  generalize ts_xs xs (ts_w (y5 + 1)) = p1 at h1 ⊢
  have e0 := (tz_W_1 hW).1
  have e : M.1 1 4 = M.1 165 0 := (tz_S_1 hS).1
  by_cases c : 0 ≤ p1 ∧ p1 < M.1 165 0
  · exact tl_RI (F := fun Qc m => (0 ≤ ts_w (y5 + 1) ∧ ts_w (y5 + 1) < (L : Int)) ∧ wL_spoonBySugar p1 Qc m) (G := fun Q m => (0 ≤ ts_w (y5 + 1) ∧ ts_w (y5 + 1) < (L : Int)) ∧ wX12_spoonBySugar p1 Q m) (o0 := 0) (v0 := tz_sr2 (M.1 165) p1) hJ hk
      (fun Qc hQ => ⟨b1, by
        unfold wL_spoonBySugar wX11_spoonBySugar
        rw [e, h1, tz_n (x := M.1 165 0) (by omega) (by omega)]
        refine ⟨fun h => absurd h (by omega), fun _ => ⟨fun _ => ?_, fun h => absurd c.2 h⟩⟩
        exact tc_atSugarRank hW hS (by omega) c (tz_B_ok hQ tz_Q_rfl)⟩)
      (fun Q m hq hQ => ⟨b1, by
        refine tm_spoonBySugar (tz_Q_W hW hq) (by omega) h1 (fun h => ?_) (fun _ _ => ?_)
        · rw [tz_Q_row hq] at h; exact absurd c h
        · rw [tz_Q_row hq]; exact tz_A_ok hQ⟩)
  · exact tl_RI (F := fun Qc m => (0 ≤ ts_w (y5 + 1) ∧ ts_w (y5 + 1) < (L : Int)) ∧ wL_spoonBySugar p1 Qc m) (G := fun Q m => (0 ≤ ts_w (y5 + 1) ∧ ts_w (y5 + 1) < (L : Int)) ∧ wX12_spoonBySugar p1 Q m) (o0 := 1) (v0 := 0) hJ hk
      (fun Qc hQ => ⟨b1, by
        unfold wL_spoonBySugar wX11_spoonBySugar
        rw [e, h1, tz_n (x := M.1 165 0) (by omega) (by omega)]
        have hx := tz_B_no hQ tz_nz1
        refine ⟨fun _ => ⟨rfl, hx⟩, fun h => ⟨fun h2 => absurd ⟨by omega, h2⟩ c, fun _ => ⟨rfl, hx⟩⟩⟩⟩)
      (fun Q m hq hQ => ⟨b1, by
        refine tm_spoonBySugar (tz_Q_W hW hq) (by omega) h1 (fun _ => tz_A_no0 hQ tz_nz1) (fun h4 h5 => ?_)
        rw [tz_Q_row hq] at h5
        exact absurd ⟨h4, h5⟩ c⟩)
theorem tl_c43 (hJ : tz_J B M) (hB : B ≤ 800000000) (b1 : (0 ≤ ts_w (y5 + 1) ∧ ts_w (y5 + 1) < (L : Int))) (hk : tz_K B y5 k28) : wL_law_B2341 L xs k28 Q y5 M := by
  have hW := hJ.1.1
  have hS := hJ.1.2
  have h1 : ts_w (ts_xs xs (ts_w (y5 + 1))) = ts_xs xs (ts_w (y5 + 1)) := tz_xw
  unfold wL_law_B2341
  generalize ts_xs xs (ts_w (y5 + 1)) = p1 at h1 ⊢
  have e6 := (tz_W_5 hW).2.1
  have hP := tz_S_5 hS
  have e : M.1 0 5 = M.1 165 6 := hP.2.1
  have hr := ts_w_rng p1
  rw [h1] at hr
  by_cases c : (0 ≤ p1 ∧ p1 < M.1 165 6) ∧ M.1 165 6 - 20 ≤ p1
  · exact tl_RI (F := fun Qc m => (0 ≤ ts_w (y5 + 1) ∧ ts_w (y5 + 1) < (L : Int)) ∧ wL_minute p1 Qc m) (G := fun Q m => (0 ≤ ts_w (y5 + 1) ∧ ts_w (y5 + 1) < (L : Int)) ∧ wX12_minute p1 Q m) (o0 := 0) (v0 := tz_mi (M.1 165) (p1 % 20)) hJ hk
      (fun Qc hQ => ⟨b1, by
        unfold wL_minute wX11_minute wX9_keepsMinute
        rw [e, h1, tz_n (x := M.1 165 6) (by omega) (by omega), tz_n (x := M.1 165 6 - 20) (by omega) (by omega)]
        refine ⟨fun h => absurd h (by omega), fun _ => ⟨fun h => absurd h (by omega), fun _ => ⟨fun h => absurd h (by omega), fun _ => ?_⟩⟩⟩
        refine ⟨Or.inr tz_n1, ?_⟩
        refine ⟨fun _ => ?_, fun h => absurd h (by rw [tz_n1]; decide)⟩
        unfold wX9_minuteAt
        refine (tc_floorMod (n := 20) c.1.1 (by omega) (by decide) (by decide)).mpr ?_
        rw [tz_n (x := p1 % 20) (by omega) (by omega)]
        have e13 : M.1 (0 + 13) (p1 % 20) = tz_mi (M.1 165) (p1 % 20) := hP.1 (p1 % 20) (by omega) (by omega)
        rw [e13]
        exact ⟨by omega, tz_B_ok hQ tz_Q_rfl⟩⟩)
      (fun Q m hq hQ => ⟨b1, by
        unfold wX12_minute
        intro M1 e1
        have r1 : M1.1 165 = M.1 165 := by rw [e1, ts_si_ne (by decide), tz_Q_row hq]
        rw [r1]
        refine (tm_isBetween h1 tz_n0 (tz_n (by omega) (by omega))).mpr ?_
        rw [r1, h1, tz_n (x := M.1 165 6 - 20) (by omega) (by omega)]
        rw [tz_in_t.mpr (by omega : 0 ≤ p1 ∧ p1 ≤ M.1 165 6 - 1), tz_i1, tz_n1]
        refine ⟨fun h => absurd h (by decide), fun _ => ⟨fun h => absurd h (by omega), fun _ => ?_⟩⟩
        intro x4 e4
        rw [e4, tz_n1]
        refine ⟨fun h => absurd h (by decide), fun _ => ?_⟩
        rw [tz_rem c.1.1 (by omega) (by decide) (by decide), tz_n (x := 62 + p1 % 20) (by omega) (by omega), r1]
        refine ⟨by omega, ?_⟩
        rw [e1]
        exact tz_A_ok hQ⟩)
  · exact tl_RI (F := fun Qc m => (0 ≤ ts_w (y5 + 1) ∧ ts_w (y5 + 1) < (L : Int)) ∧ wL_minute p1 Qc m) (G := fun Q m => (0 ≤ ts_w (y5 + 1) ∧ ts_w (y5 + 1) < (L : Int)) ∧ wX12_minute p1 Q m) (o0 := 1) (v0 := 0) hJ hk
      (fun Qc hQ => ⟨b1, by
        unfold wL_minute wX11_minute wX9_keepsMinute
        rw [e, h1, tz_n (x := M.1 165 6) (by omega) (by omega), tz_n (x := M.1 165 6 - 20) (by omega) (by omega)]
        have hx := tz_B_no hQ tz_nz1
        have hf : wX9_keepsMinute_B27 0 (fun r2 M1 => ((¬ (ts_w r2 = 0) → (wX9_minuteAt 0 p1 (fun r4 M3 => (∀ M5 : ts_M, M5 = ts_sl M3 175 0 (ts_L r4) → Qc 0 M5)) M1)) ∧ (ts_w r2 = 0 → ("java/util/NoSuchElementException" = "java/util/NoSuchElementException" ∧ Qc 1 M1)))) M := ⟨Or.inl tz_n0, fun h => absurd tz_n0 h, fun _ => ⟨rfl, hx⟩⟩
        exact ⟨fun _ => hf, fun h4 => ⟨fun _ => hf, fun h5 => ⟨fun _ => hf, fun h6 => absurd ⟨⟨by omega, by omega⟩, by omega⟩ c⟩⟩⟩⟩)
      (fun Q m hq hQ => ⟨b1, by
        unfold wX12_minute
        intro M1 e1
        have r1 : M1.1 165 = M.1 165 := by rw [e1, ts_si_ne (by decide), tz_Q_row hq]
        rw [r1]
        refine (tm_isBetween h1 tz_n0 (tz_n (by omega) (by omega))).mpr ?_
        rw [r1, h1, tz_n (x := M.1 165 6 - 20) (by omega) (by omega)]
        have hf : wX12_minute_B40 Q p1 M1 := by
          intro x4 e4
          rw [e4, tz_n0]
          refine ⟨fun _ => ?_, fun h => absurd rfl h⟩
          rw [e1]
          exact tz_A_no hQ tz_nz1
        by_cases c2 : 0 ≤ p1 ∧ p1 ≤ M.1 165 6 - 1
        · rw [tz_in_t.mpr c2, tz_i1, tz_n1]
          exact ⟨fun h => absurd h (by decide), fun _ => ⟨fun _ => hf, fun h => absurd ⟨⟨by omega, by omega⟩, by omega⟩ c⟩⟩
        · rw [tz_in_f.mpr c2, tz_i0, tz_n0]
          exact ⟨fun _ => hf, fun h => absurd rfl h⟩⟩)
end TLS
