/-! ===== the law's rounds: calls that don't throw ===== -/
section TLP
variable {B B' n y5 o v o0 v0 p x r q : Int} {L : Nat} {xs : Nat → Int32} {k28 : Int → ts_M → Prop} {Q Qc : Int → ts_M → Prop} {Qv : ts_M → Prop} {X : String → ts_M → Prop} {M M' m : ts_M} {w w' : Int → Int}
theorem tz_Q_row (hq : tz_Q M m) : m.1 165 = M.1 165 := by
  funext j
  exact hq.2.2.1 165 j (Or.inr (Or.inr rfl))
theorem tz_Q_W (hW : tz_W B (M.1 165)) (hq : tz_Q M m) : tz_W B (m.1 165) := by rw [tz_Q_row hq]; exact hW
theorem tz_Q_FK (h : tz_FK M m) : tz_Q M m := tz_Q_fr (S := fun a => a = 169) ⟨fun a ha => ⟨h.1 a ha, by rw [h.2]⟩, by rw [h.2]⟩ (fun a h => by omega)
theorem tz_Q_FG (h : tz_FG 0 M m) : tz_Q M m := by
  obtain ⟨h1, h2, h3⟩ := h
  have g : ∀ (a : Nat) (j : Int), a ≠ 11 → m.1 a j = M.1 a j := fun a j ha => h1 a j (fun h => ha h.1)
  have g2 : ∀ a : Nat, a ≠ 12 → m.2.1 a = M.2.1 a := fun a ha => h2 a ha
  exact ⟨⟨fun a j hk => g a j (by unfold tz_kr at hk; omega), fun a h4 h5 => g2 a (by omega)⟩, ⟨fun a j hk => g a j (by unfold tz_kh at hk; omega), fun a h4 h5 => g2 a (by omega)⟩, fun a j hk => g a j (by unfold tz_km at hk; omega), by rw [g2 11 (by decide)]⟩
theorem tm_told {k : Int} (hk : 0 ≤ k ∧ k < 146) (hQ : ∀ m' : ts_M, tz_Q M m' → Q (M.1 165 k) m') : wX12_told k Q M := by
  unfold wX12_told
  intro M1 e
  rw [e, tz_n (x := k) (by omega) (by omega)]
  refine ⟨⟨hk.1, by omega⟩, ?_⟩
  rw [ts_si_ne (by decide)]
  exact hQ _ (tz_Q_si (by decide))
theorem tl_c12 (hJ : tz_J B M) (hk : tz_K B y5 k28) : wL_law_B991 L xs k28 Q y5 M := by
  unfold wL_law_B991
  exact tl_RP (F := fun Qc m => wX11_spoonCount Qc m) (G := fun Q m => wX12_spoonCount Q m) (v0 := M.1 165 0) hJ hk
    (fun Qc hQ => by
      have e : M.1 1 4 = M.1 165 0 := (tz_S_1 hJ.1.2).1
      unfold wX11_spoonCount
      rw [e]; exact hQ M tz_Q_rfl)
    (fun Q m hq hQ => by
      unfold wX12_spoonCount
      exact tm_told (by decide) (fun m' h => by rw [tz_Q_row hq]; exact hQ m' h))
theorem tl_c17 (hJ : tz_J B M) (hk : tz_K B y5 k28) : wL_law_B1228 L xs k28 Q y5 M := by
  unfold wL_law_B1228
  exact tl_RP (F := fun Qc m => wX11_proposalCount Qc m) (G := fun Q m => wX12_proposalCount Q m) (v0 := M.1 165 1) hJ hk
    (fun Qc hQ => by
      have e : M.1 6 2 = M.1 165 1 := (tz_S_2 hJ.1.2).1
      unfold wX11_proposalCount
      rw [e]; exact hQ M tz_Q_rfl)
    (fun Q m hq hQ => by
      unfold wX12_proposalCount
      exact tm_told (by decide) (fun m' h => by rw [tz_Q_row hq]; exact hQ m' h))
theorem tl_c20 (hJ : tz_J B M) (hk : tz_K B y5 k28) : wL_law_B1353 L xs k28 Q y5 M := by
  unfold wL_law_B1353
  exact tl_RP (F := fun Qc m => wX11_motionCount Qc m) (G := fun Q m => wX12_motionCount Q m) (v0 := M.1 165 3) hJ hk
    (fun Qc hQ => by
      have e : M.1 9 1 = M.1 165 3 := (tz_S_3 hJ.1.2).1
      unfold wX11_motionCount
      rw [e]; exact hQ M tz_Q_rfl)
    (fun Q m hq hQ => by
      unfold wX12_motionCount
      exact tm_told (by decide) (fun m' h => by rw [tz_Q_row hq]; exact hQ m' h))
theorem tl_c42 (hJ : tz_J B M) (hk : tz_K B y5 k28) : wL_law_B2328 L xs k28 Q y5 M := by
  unfold wL_law_B2328
  exact tl_RP (F := fun Qc m => wX11_minutesCount Qc m) (G := fun Q m => wX12_minutesCount Q m) (v0 := M.1 165 6) hJ hk
    (fun Qc hQ => by
      have e : M.1 0 5 = M.1 165 6 := (tz_S_5 hJ.1.2).2.1
      unfold wX11_minutesCount
      rw [e]; exact hQ M tz_Q_rfl)
    (fun Q m hq hQ => by
      unfold wX12_minutesCount
      exact tm_told (by decide) (fun m' h => by rw [tz_Q_row hq]; exact hQ m' h))
theorem tl_c44 (hJ : tz_J B M) (hk : tz_K B y5 k28) : wL_law_B2397 L xs k28 Q y5 M := by
  unfold wL_law_B2397
  exact tl_RP (F := fun Qc m => wX11_sittings Qc m) (G := fun Q m => wX12_sittings Q m) (v0 := M.1 165 5) hJ hk
    (fun Qc hQ => by
      have e : M.1 0 6 = M.1 165 5 := (tz_S_5 hJ.1.2).2.2.1
      unfold wX11_sittings
      rw [e]; exact hQ M tz_Q_rfl)
    (fun Q m hq hQ => by
      unfold wX12_sittings
      exact tm_told (by decide) (fun m' h => by rw [tz_Q_row hq]; exact hQ m' h))
theorem tl_c24 (hJ : tz_J B M) (hk : tz_K B y5 k28) : wL_law_B1510 L xs k28 Q y5 M := by
  have h4 := (tz_W_3 hJ.1.1).2.1
  have hb : M.1 165 4 = 0 ∨ M.1 165 4 = 1 := by omega
  unfold wL_law_B1510
  exact tl_RP (F := fun Qc m => wX11_isClosed Qc m) (G := fun Q m => wX12_isClosed Q m) (v0 := M.1 165 4) hJ hk
    (fun Qc hQ => by
      have e : M.1 9 4 = M.1 165 4 := (tz_S_3 hJ.1.2).2.2.2.1
      unfold wX11_isClosed
      rw [e]
      exact ⟨by rcases hb with h | h <;> rw [h] <;> decide, hQ M tz_Q_rfl⟩)
    (fun Q m hq hQ => by
      unfold wX12_isClosed
      refine tm_told (by decide) (fun m' h => ?_)
      rw [tz_Q_row hq]
      exact tl_n1 (Q := Q) hb (hQ m' h))
theorem tl_c30 (hJ : tz_J B M) (hB : B ≤ 800000000) (hk : tz_K B y5 k28) : wL_law_B1814 L xs k28 Q y5 M := by
  unfold wL_law_B1814
  exact tl_RP (F := fun Qc m => wX11_fewestDisagreements Qc m) (G := fun Q m => wX12_fewestDisagreements Q m) (v0 := tz_G (tz_ss (M.1 165)) (tz_nn (M.1 165)) (2 ^ tz_nn (M.1 165) - 1)) hJ hk
    (fun Qc hQ => by
      unfold wX11_fewestDisagreements
      refine tc_survey hJ.1.1 hJ.1.2 (by decide) (fun m f hSV => ?_)
      refine tc_byTable hSV (fun m2 f2 _ => ?_)
      exact hQ m2 (tz_Q_tr (tz_Q_fr f (fun a h => by omega)) (tz_Q_fr f2 (fun a h => by omega))))
    (fun Q m hq hQ => tm_fewest (tz_Q_W hJ.1.1 hq) (by omega) (fun m' f => by
      rw [tz_Q_row hq]
      exact hQ m' (tz_Q_tr (tz_Q_si (by decide)) (tz_Q_fr f (fun a h => by omega)))))
theorem tl_c31 (hJ : tz_J B M) (hB : B ≤ 800000000) (hk : tz_K B y5 k28) : wL_law_B1827 L xs k28 Q y5 M := by
  unfold wL_law_B1827
  exact tl_RP (F := fun Qc m => wX11_fewestDisagreementsByOrders Qc m) (G := fun Q m => wX12_fewestDisagreementsByOrders Q m) (v0 := tz_G (tz_ss (M.1 165)) (tz_nn (M.1 165)) (2 ^ tz_nn (M.1 165) - 1)) hJ hk
    (fun Qc hQ => by
      unfold wX11_fewestDisagreementsByOrders
      refine tc_survey hJ.1.1 hJ.1.2 (by decide) (fun m f hSV => ?_)
      refine tc_byTrying hSV ?_
      exact hQ m (tz_Q_fr f (fun a h => by omega)))
    (fun Q m hq hQ => tm_fewest2 (tz_Q_W hJ.1.1 hq) (by omega) (fun m' f => by
      rw [tz_Q_row hq]
      exact hQ m' (tz_Q_tr (tz_Q_si (by decide)) (tz_Q_fr f (fun a h => by omega)))))
theorem tl_c36 (hJ : tz_J B M) (hk : tz_K B y5 k28) : wL_law_B2097 L xs k28 Q y5 M := by
  unfold wL_law_B2097
  exact tl_RP (F := fun Qc m => wX11_wetCells Qc m) (G := fun Q m => wX12_wetCells Q m) (v0 := tz_sum (tz_we (M.1 165)) 64) hJ hk
    (fun Qc hQ => by
      have e : tz_sum (fun k => tz_i (tz_bit (M.2.1 11 0) k.toNat)) 64 = tz_sum (tz_we (M.1 165)) 64 := tz_pop_we (b := 0) (tz_S_4 hJ.1.2) (tz_W_4 hJ.1.1)
      unfold wX11_wetCells
      refine tz_pop.mpr ?_
      rw [e]; exact hQ M tz_Q_rfl)
    (fun Q m hq hQ => by
      unfold wX12_wetCells
      intro M1 e
      have e1 : M1.1 165 = M.1 165 := by rw [e, ts_si_ne (by decide), tz_Q_row hq]
      refine (tm_wets (by rw [e1]; exact tz_W_4 hJ.1.1)).mpr ?_
      rw [e1, e]
      exact hQ _ (tz_Q_si (by decide)))
theorem tl_c39 (hJ : tz_J B M) (hk : tz_K B y5 k28) : wL_law_B2246 L xs k28 Q y5 M := by
  unfold wL_law_B2246
  exact tl_RP (F := fun Qc m => wX11_largestPuddle Qc m) (G := fun Q m => wX12_largestPuddle Q m) (v0 := tz_lg (M.1 165)) hJ hk
    (fun Qc hQ => by
      unfold wX11_largestPuddle
      refine tc_largest ?_
      rw [tz_lg_bit (tz_S_4 hJ.1.2)]; exact hQ M tz_Q_rfl)
    (fun Q m hq hQ => by
      unfold wX12_largestPuddle
      intro M1 e
      have e1 : M1.1 165 = M.1 165 := by rw [e, ts_si_ne (by decide), tz_Q_row hq]
      refine tm_largest (by rw [e1]; exact tz_W_4 hJ.1.1) (fun m' f => ?_)
      rw [e1]
      exact hQ m' (tz_Q_tr (by rw [e]; exact tz_Q_si (by decide)) (tz_Q_FK f)))
theorem tl_c40 (hJ : tz_J B M) (hk : tz_K B y5 k28) : wL_law_B2259 L xs k28 Q y5 M := by
  unfold wL_law_B2259
  exact tl_RP (F := fun Qc m => wX11_puddleCount Qc m) (G := fun Q m => wX12_puddleCount Q m) (v0 := tz_sz (tz_ld (tz_wb (M.1 165)))) hJ hk
    (fun Qc hQ => by
      have hP := tz_P4_wb (tz_S_4 hJ.1.2)
      have e : tz_sz (tz_ld (tz_bit (M.2.1 (0 + 11) 0))) = tz_sz (tz_ld (tz_wb (M.1 165))) := tz_sz_eq (fun k hk => by
        unfold tz_ld
        rw [hP k hk]
        constructor
        · rintro ⟨h1, h2, h3⟩
          exact ⟨h1, h2, fun j hj hc => h3 j hj ((tz_cp_congr hP hk).mpr hc)⟩
        · rintro ⟨h1, h2, h3⟩
          exact ⟨h1, h2, fun j hj hc => h3 j hj ((tz_cp_congr hP hk).mp hc)⟩)
      unfold wX11_puddleCount
      refine tc_countP ?_
      rw [e]; exact hQ M tz_Q_rfl)
    (fun Q m hq hQ => tm_puddleCount (tz_W_4 (tz_Q_W hJ.1.1 hq)) (fun m' f => by
      rw [tz_Q_row hq]
      exact hQ m' (tz_Q_tr (tz_Q_si (by decide)) (tz_Q_FK f))))
theorem tl_c45 (hJ : tz_J B M) (hk : tz_K B y5 k28) : wL_law_B2410 L xs k28 Q y5 M := by
  unfold wL_law_B2410
  exact tl_RP (F := fun Qc m => wX11_sugarTotal Qc m) (G := fun Q m => wX12_sugarTotal Q m) (v0 := tz_sug (M.1 165)) hJ hk
    (fun Qc hQ => by
      unfold wX11_sugarTotal
      exact (tc_countedLumps hJ.1.1 hJ.1.2).mpr (hQ M tz_Q_rfl))
    (fun Q m hq hQ => (tm_sugarT (tz_Q_W hJ.1.1 hq)).mpr (by rw [tz_Q_row hq]; exact hQ _ (tz_Q_si (by decide))))
theorem tm_sugarA (hQ : Q (5 * M.1 165 0 + M.1 165 9 - M.1 165 10) (ts_si M 164 0 0)) : wX12_sugarByAccounts Q M := by
  unfold wX12_sugarByAccounts
  intro M1 e
  rw [e, ts_si_ne (by decide)]
  exact hQ
theorem tl_c46 (hJ : tz_J B M) (hk : tz_K B y5 k28) : wL_law_B2423 L xs k28 Q y5 M := by
  unfold wL_law_B2423
  exact tl_RP (F := fun Qc m => wX11_sugarByAccounts Qc m) (G := fun Q m => wX12_sugarByAccounts Q m) (v0 := 5 * M.1 165 0 + M.1 165 9 - M.1 165 10) hJ hk
    (fun Qc hQ => by
      unfold wX11_sugarByAccounts
      exact (tc_accountedLumps hJ.1.2).mpr (hQ M tz_Q_rfl))
    (fun Q m hq hQ => tm_sugarA (by rw [tz_Q_row hq]; exact hQ _ (tz_Q_si (by decide))))
theorem tl_c49 (hJ : tz_J B M) (hB : B ≤ 800000000) (hk : tz_K B y5 k28) : wL_law_B2567 L xs k28 Q y5 M := by
  have hW := hJ.1.1
  have hS := hJ.1.2
  have hsug : tz_sug (M.1 165) = 5 * M.1 165 0 + M.1 165 9 - M.1 165 10 := (tz_W_1 hW).2.2.2.2.2
  unfold wL_law_B2567
  exact tl_RP (F := fun Qc m => wX11_isConsistent Qc m) (G := fun Q m => wX12_isConsistent Q m) (v0 := 1) hJ hk
    (fun Qc hQ => by
      unfold wX11_isConsistent
      refine tc_survey hW hS (by decide) (fun m f hSV => ?_)
      refine tc_byTable hSV (fun m2 f2 _ => ?_)
      have hSV2 := tz_SV_c hSV (tz_fr_1 f2 (by decide)) (tz_fr_1 f2 (by decide))
      refine tc_byTrying hSV2 ?_
      refine ⟨fun hn => absurd rfl hn, fun _ => ?_⟩
      refine tc_topAgree hSV2 ?_
      rw [tz_n1]
      refine ⟨fun hn => absurd hn (by decide), fun _ => ?_⟩
      refine tc_agree (fun m3 f3 => ?_)
      rw [tz_n1]
      refine ⟨fun hn => absurd hn (by decide), fun _ => ?_⟩
      have hQ3 : tz_Q M m3 := tz_Q_tr (tz_Q_fr f (fun a h => by omega)) (tz_Q_tr (tz_Q_fr f2 (fun a h => by omega)) (tz_Q_FG f3))
      have hJ3 := tz_J_q hJ hQ3
      refine (tc_countedLumps hJ3.1.1 hJ3.1.2).mpr ?_
      refine (tc_accountedLumps hJ3.1.2).mpr ?_
      rw [tz_Q_row hQ3, hsug]
      refine ⟨fun hn => absurd rfl hn, fun _ => ⟨Or.inr tz_n1, hQ m3 hQ3⟩⟩)
    (fun Q m hq hQ => by
      unfold wX12_isConsistent
      refine (tm_sugarT (tz_Q_W hW hq)).mpr ?_
      refine tm_sugarA ?_
      rw [ts_si_ne (by decide), tz_Q_row hq, hsug]
      refine ⟨fun hn => absurd rfl hn, fun _ => ⟨Or.inr tz_n1, hQ _ (tz_Q_tr (tz_Q_si (by decide)) (tz_Q_si (by decide)))⟩⟩)
end TLP
