/-! ===== the reference's vote ===== -/
section TZY
variable {B : Int} {Q : Int → ts_M → Prop} {Qv : ts_M → Prop} {M : ts_M} {w : Int → Int}
/-- a main motion lies alone where it is on top -/
theorem tz_top0 (hW : tz_W B w) (h : tz_top w = 0) : w 3 = 1 ∧ tz_mo w 0 = 0 := by
  have hm := tz_main_of hW (by omega) (by omega)
  have e := tz_W_3 hW
  have c4 : tz_top w = tz_mo w (w 3 - 1) := by unfold tz_top; rw [if_neg (by omega)]
  have c5 := tz_mo_ge e (w 3 - 1).toNat (by omega)
  rw [Int.toNat_of_nonneg (by omega)] at c5
  exact ⟨by omega, hm.2⟩
theorem tz_top_2 (hW : tz_W B w) (h : 0 < tz_top w) (h2 : tz_top w ≤ 3) : 2 ≤ w 3 := by
  have hm := tz_main_of hW (by omega) (by omega)
  by_cases c1 : w 3 = 1
  · unfold tz_top at h
    rw [if_neg (by omega), c1] at h
    have : tz_mo w (1 - 1) = tz_mo w 0 := rfl
    omega
  · omega
theorem tz_s1 {c d A D : Prop} (h : ¬ d) : ((c → A) ∧ (¬ c → ((¬ d → A) ∧ (d → D)))) ↔ A := ⟨fun g => by
    by_cases h2 : c
    · exact g.1 h2
    · exact (g.2 h2).1 h, fun g => ⟨fun _ => g, fun _ => ⟨fun _ => g, fun h3 => absurd h3 h⟩⟩⟩
theorem tz_L_w2 {w : Int → Int} (hB : B ≤ 1000000000) (h : tz_W2 B w) : tz_L w := by
  obtain ⟨b1, b2, b3, b4⟩ := h
  exact ⟨b1, fun i h1 h2 => by have := b3 i h1 h2; exact ⟨tz_n (by omega) (by omega), this.2⟩⟩
theorem tm_votes (hB : B ≤ 900000000) (hW : tz_W B (M.1 165)) (h0 : M.1 165 3 ≠ 0) : wX12_votes Q M ↔ Q (tz_i (tz_ado (M.1 165))) (tz_sr M (to_votes (M.1 165))) := by
  have hV := tz_k_v1 hW
  have e0 := hW.1
  have e3 := hW.2.2.2.1
  have ht := tz_top_pos hW h0
  have htn : ts_w (tz_top (M.1 165)) = tz_top (M.1 165) := tz_n (by omega) (by omega)
  have hvt : tz_top (to_v1 (M.1 165)) = tz_top (M.1 165) := to_v1_top e3.1
  have v0 : to_v1 (M.1 165) 0 = M.1 165 0 := to_v1_o (by omega) (by omega)
  have v3 : to_v1 (M.1 165) 3 = M.1 165 3 := to_v1_o (by omega) (by omega)
  have start : wX12_votes Q M ↔ wX12_votes_B38 Q (tz_i (tz_ado (M.1 165))) (tz_top (M.1 165)) (tz_i (tz_ado (M.1 165))) (M.1 165 8) 8 (tz_sr M (ts_fu (M.1 165) 7 (M.1 165 7 + 1))) := by
    have q8 : ts_fu (M.1 165) 7 (M.1 165 7 + 1) 8 = M.1 165 8 := tz_fu_n (by omega)
    unfold wX12_votes
    rw [tm_isAdopted (by omega) hW h0]
    simp only [forall_eq]
    rw [tm_top e3.1 e3.2]
    simp only [tz_si_sr, tz_sr_get, q8, tz_iw, tz_iz]
    cases tz_ado (M.1 165)
    · rw [tz_y rfl]; exact Iff.rfl
    · rw [tz_x (by decide)]; exact Iff.rfl
  rw [start]
  have m8 : ts_si (tz_sr M (ts_fu (M.1 165) 7 (M.1 165 7 + 1))) 165 8 (M.1 165 8 + tz_i (tz_ado (M.1 165))) = tz_sr M (to_v1 (M.1 165)) := by
    rw [tz_si_srr]; rfl
  have n8 : ts_w 8 = 8 := rfl
  unfold wX12_votes_B38
  rw [n8, tz_p ⟨by omega, by omega⟩]
  simp only [forall_eq, m8, htn, tz_iw, tz_iz]
  generalize hw : M.1 165 = w at *
  generalize hv : to_v1 w = v at *
  have gv : (tz_sr M v).1 165 = v := tz_sr_get
  have hLv : tz_L v := tz_L_of (by omega) hV
  unfold to_votes
  rw [hv]
  by_cases k0 : tz_top w = 0
  · rw [tz_y2 k0, if_pos k0]
    have t0 := tz_top0 hV (by rw [hvt]; exact k0)
    have t1 := tz_pl_main hV (by omega) t0.2
    have t2 := tz_W60 (by omega) hV (by omega) t0.2
    rw [tm_decidesMain (B := B + 1) (by omega) (by rw [gv]; exact hLv) (by rw [gv, v0]; exact e0) (by rw [gv]; exact t2) (by rw [gv]; exact t1.1) (by rw [gv]; exact t0.1) (by rw [gv]; exact t0.2) (by rw [gv]; exact (tz_W_5 hV).2.1) (fun s h1 h2 => by rw [gv] at h2 ⊢; exact ((tz_W_1 hV).2.2.2.1 s h1 h2).2.1), gv, tz_sr_sr]
    unfold wX12_votes_B58
    cases tz_ado w
    · rw [tz_y rfl]; exact Iff.rfl
    · rw [tz_x (by decide)]; exact Iff.rfl
  · rw [tz_x2 k0, if_neg k0]
    have k154 : ∀ m : ts_M, wX12_votes_B154 Q (tz_i (tz_ado w)) m ↔ Q (tz_i (tz_ado w)) m := fun m => by
      simp only [wX12_votes_B154, wX12_votes_B163, tz_iw, tz_iz]
      cases tz_ado w
      · rw [tz_y rfl]; exact Iff.rfl
      · rw [tz_x (by decide)]; exact Iff.rfl
    have rt : ∀ r : Int → Int, r 0 = v 0 → r 3 = v 3 → ∀ q : ts_M → Prop, wX12_removesTop q (tz_sr M r) ↔ q (tz_sr M (to_rtop r)) := fun r r0 r3 q => by
      rw [tm_removesTop (by rw [tz_sr_get, r0, v0]; exact e0) (by rw [tz_sr_get, r3, v3]; omega), tz_sr_get, tz_sr_sr]
    by_cases k1 : tz_top w = 1
    · rw [if_pos k1]
      have t0 := tz_main_of hV (by omega) (by omega)
      have t1 := tz_pl_main hV t0.1 t0.2
      have t2 := tz_W60 (by omega) hV t0.1 t0.2
      have t3 := hLv.1
      have e108 : ∀ r : Int → Int, r 0 = v 0 → r 3 = v 3 → (wX12_votes_B108 Q (tz_i (tz_ado w)) 1 (tz_sr M r) ↔ Q (tz_i (tz_ado w)) (tz_sr M (to_rtop r))) := fun r r0 r3 => by
        unfold wX12_votes_B108
        rw [rt r r0 r3]
        simp only [wX12_votes_B125, wX12_votes_B141, k154, tz_iw, tz_iz, tz_n1]
        cases tz_ado w <;> simp
      have e95 : ∀ r : Int → Int, r 0 = v 0 → r 3 = v 3 → (wX12_votes_B95 Q (tz_i (tz_ado w)) 1 (tz_sr M r) ↔ Q (tz_i (tz_ado w)) (tz_sr M (to_rtop (ts_fu r 61 0)))) := fun r r0 r3 => by
        simp only [wX12_votes_B95, forall_eq]
        rw [tz_y2 tz_n1, tz_si_srr, e108 _ (by rw [tz_fu_n (by omega)]; exact r0) (by rw [tz_fu_n (by omega)]; exact r3)]
      rw [k1]
      cases c1 : tz_ado w
      · rw [tz_y rfl]
        have := e95 v rfl rfl
        rw [c1] at this
        rw [this]
        exact Iff.rfl
      · rw [tz_x (by decide), tz_y2 rfl, gv, tm_place (by rw [gv]; exact hLv) t2, gv, tm_changed (by rw [gv]; exact hLv) (by rw [gv]; exact t2) (by rw [gv]; exact t1.1) (by rw [gv]; exact tz_W61 hV), gv, tz_n (x := 43 + 2 * tz_pl v (v 60) + 1) (by omega) (by omega), tz_p ⟨by omega, by omega⟩]
        have := e95 (ts_fu v (43 + 2 * tz_pl v (v 60) + 1) (tz_ch v)) (by rw [tz_fu_n (by omega)]) (by rw [tz_fu_n (by omega)])
        rw [c1] at this
        rw [tz_si_srr, this]
        exact Iff.rfl
    · rw [if_neg k1]
      have k95 : wX12_votes_B95 Q (tz_i (tz_ado w)) (tz_top w) (tz_sr M v) ↔ wX12_votes_B108 Q (tz_i (tz_ado w)) (tz_top w) (tz_sr M v) := by
        simp only [wX12_votes_B95, htn]
        exact tz_x2 k1
      rw [tz_s1 k1, k95]
      unfold wX12_votes_B108
      rw [rt v rfl rfl]
      simp only [wX12_votes_B125, wX12_votes_B141, k154, tz_iw, tz_iz, htn, forall_eq]
      cases c1 : tz_ado w
      · simp
      · have c2 : ¬ (true = false) := by decide
        have c3 : ∀ A D : Prop, ((true = false → A) ∧ (¬ (true = false) → D)) ↔ D := fun A D => tz_x c2
        rw [if_neg c2]
        simp only [c3]
        have z1 : 1 ≤ v 3 := by omega
        have hR := tz_k_rtop hV z1
        have z0 : 0 ≤ to_rtop v 0 ∧ to_rtop v 0 ≤ 8 := hR.1
        by_cases k2 : tz_top w = 2
        · have t0 := tz_main_of hV (by omega) (by omega)
          have t1 := tz_pl_main hV t0.1 t0.2
          have t2 := tz_W60 (by omega) hV t0.1 t0.2
          have t3 := tz_top_2 hV (by omega) (by omega)
          have o : ∀ j : Int, ¬ (j = 3 ∨ j = 55 + (v 3 - 1)) → to_rtop v j = v j := fun j h => to_rtop_o hV.1 ⟨z1, by omega⟩ h (fun h => by omega)
          have p1 : tz_pl (to_rtop v) (v 60) = tz_pl v (v 60) := tz_pl_congr hLv.1.2 (o 1 (by omega)) (fun k h1 h2 => o k (by omega))
          rw [tz_y2 k2, if_pos k2, tm_postpones (by rw [tz_sr_get]; exact tz_L_of (by omega) hR) (by rw [tz_sr_get]; exact z0) (by rw [tz_sr_get, o 60 (by omega)]; exact t2) (by rw [tz_sr_get, o 60 (by omega), p1]; exact t1.1), tz_sr_get, tz_sr_sr]
          simp [k2]
        · rw [tz_x2 k2, if_neg k2]
          by_cases k3 : tz_top w = 3
          · rw [tz_y2 k3, if_pos k3, tz_si_srr]
            simp [k3]
          · rw [tz_x2 k3, if_neg k3]
            have k4 : tz_top w = 4 := by omega
            rw [tz_y2 k4, if_pos k4, tm_adjourns (by rw [tz_sr_get]; exact z0.1) (by rw [tz_sr_get]; exact z0.2), tz_sr_get, tz_sr_sr]
end TZY
