/-! ===== a vote keeps what holds of a row ===== -/
section TZB
variable {B : Int} {w : Int → Int}
theorem tz_k_votes (hB : B ≤ 900000000) (hW : tz_W B w) (h0 : w 3 ≠ 0) : tz_W (B + 9) (to_votes w) := by
  have hV := tz_k_v1 hW
  have ht := tz_top_pos hW h0
  have e3 := hW.2.2.2.1
  have hvt : tz_top (to_v1 w) = tz_top w := to_v1_top e3.1
  have v3 : to_v1 w 3 = w 3 := to_v1_o (by omega) (by omega)
  unfold to_votes
  generalize hv : to_v1 w = v at *
  have hLv : tz_L v := tz_L_of (by omega) hV
  have g0 := hV.1
  have g1 := hLv.1
  have q1 : 1 ≤ v 3 ∧ v 3 ≤ 5 := by omega
  by_cases k0 : tz_top w = 0
  · rw [if_pos k0]
    have t0 := tz_top0 hV (by rw [hvt]; exact k0)
    have t1 := tz_pl_main hV (by omega) t0.2
    have t36 : 0 ≤ v 6 ∧ v 6 ≤ B + 1 := (tz_W_5 hV).2.1
    have gen : ∀ y : Int → Int, tz_W1 (B + 3) y → (∀ j : Int, j = 1 ∨ j = 2 ∨ j = 60 ∨ (43 ≤ j ∧ j < 55) ∨ (82 ≤ j ∧ j < 146) → y j = v j) → tz_W5 (B + 2) y → tz_W (B + 9) (to_out y) := by
      intro y h1 h2 h5
      unfold to_out
      have p2 : tz_W2 (B + 1) y := tz_W2_c (tz_W_2 hV) (Int.le_refl _) (fun j h => h2 j (by omega))
      have pp : tz_pl y (y 60) = tz_pl v (v 60) := by
        rw [h2 60 (by omega)]; exact tz_pl_congr g1.2 (h2 1 (by omega)) (fun k h3 h4 => h2 k (by omega))
      have y1 := h2 1 (by omega)
      have xo : ∀ j : Int, j ≠ 1 → ¬ (43 ≤ j ∧ j < 55) → to_off y (tz_pl y (y 60)) j = y j := fun j h3 h4 => to_off_get h3 h4 (by rw [pp]; exact t1.1) (by rw [y1]; exact g1.2) (by rw [y1]; omega)
      refine tz_W_mono (tz_k_emp (B := B + 3) (tz_W1_c h1 (Int.le_refl _) (fun j h => xo j (by omega) (by omega))) ?_ (tz_W4_c (tz_W_4 hV) (fun j h h' => by rw [xo j (by omega) (by omega)]; exact h2 j (by omega))) (tz_W5_c h5 (by omega) (fun j h => xo j (by omega) (by omega)))) (by omega)
      exact tz_W2_c (tz_k_off p2 (by rw [pp]; exact t1.1) (by rw [pp, y1]; exact t1.2.1)) (by omega) (fun _ _ => rfl)
    unfold to_dec
    cases c1 : tz_ado w
    · rw [if_neg (by decide)]
      exact gen v (tz_W1_c (tz_W_1 hV) (by omega) (fun _ _ => rfl)) (fun _ _ => rfl) (tz_W5_c (tz_W_5 hV) (by omega) (fun _ _ => rfl))
    · rw [if_pos rfl]
      have rr : ∀ j : Int, ¬ (j = 9 ∨ (13 ≤ j ∧ j < 45 ∧ (j - 13) % 4 = 0)) → to_rew v (v 0).toNat j = v j := fun j h => to_rew_get _ _ (by omega)
      have r6 : to_rew v (v 0).toNat 6 = v 6 := rr 6 (by omega)
      have mo : ∀ j : Int, ¬ (j = 6 ∨ (62 ≤ j ∧ j < 82)) → to_min (to_rew v (v 0).toNat) j = to_rew v (v 0).toNat j := fun j h => to_min_get (by rw [r6]; exact t36.1) h
      refine gen _ (tz_W1_c (tz_k_rew (tz_W_1 hV)) (by omega) (fun j h => mo j (by omega))) (fun j h => by rw [mo j (by omega)]; exact rr j (by omega)) ?_
      obtain ⟨d1, d2, d3, d4⟩ := tz_W_5 hV
      have m6 : to_min (to_rew v (v 0).toNat) 6 = v 6 + 1 := by unfold to_min; rw [tz_fu_e, r6]
      unfold tz_W5
      rw [m6, mo 5 (by omega), mo 7 (by omega), mo 8 (by omega), rr 5 (by omega), rr 7 (by omega), rr 8 (by omega)]
      omega
  · rw [if_neg k0]
    have up : ∀ r : Int → Int, tz_W (B + 1) r → tz_W (B + 9) r := fun r h => tz_W_mono h (by omega)
    have hR := tz_k_rtop hV q1.1
    by_cases k1 : tz_top w = 1
    · rw [if_pos k1]
      have t0 := tz_main_of hV (by omega) (by omega)
      have t1 := tz_pl_main hV t0.1 t0.2
      have hA : tz_W (B + 1) (to_am v (tz_ado w)) := by
        have ch : 0 ≤ tz_ch v ∧ tz_ch v ≤ 99 := tz_cl_rng
        have o : ∀ j : Int, j ≠ 61 → j ≠ 43 + 2 * tz_pl v (v 60) + 1 → to_am v (tz_ado w) j = v j := fun j h1 h2 => by
          unfold to_am; rw [tz_fu_n h1]
          split
          · rw [tz_fu_n h2]
          · rfl
        have o61 : to_am v (tz_ado w) 61 = 0 := by unfold to_am; rw [tz_fu_e]
        refine tz_W_of (tz_W1_c (tz_W_1 hV) (Int.le_refl _) (fun j h => o j (by omega) (by omega))) ?_ ?_ ?_ (tz_W4_c (tz_W_4 hV) (fun j h h' => o j (by omega) (by omega))) (tz_W5_c (tz_W_5 hV) (Int.le_refl _) (fun j h => o j (by omega) (by omega)))
        · obtain ⟨b1, b2, b3, b4⟩ := tz_W_2 hV
          have oi : ∀ i : Int, 0 ≤ i → i < v 1 → tz_pi (to_am v (tz_ado w)) i = tz_pi v i := fun i h1 h2 => o _ (by omega) (by omega)
          unfold tz_W2
          rw [o 1 (by omega) (by omega), o 2 (by omega) (by omega)]
          refine ⟨b1, b2, fun i h1 h2 => ?_, fun i j h1 h2 h3 => ?_⟩
          · rw [oi i h1 h2]
            refine ⟨(b3 i h1 h2).1, ?_⟩
            unfold tz_pp to_am
            rw [tz_fu_n (by omega)]
            split
            · by_cases z1 : 43 + 2 * i + 1 = 43 + 2 * tz_pl v (v 60) + 1
              · rw [z1, tz_fu_e]; exact ch
              · rw [tz_fu_n z1]; exact (b3 i h1 h2).2
            · exact (b3 i h1 h2).2
          · rw [oi i h1 (by omega), oi j (by omega) h3]; exact b4 i j h1 h2 h3
        · obtain ⟨c1, c2, c3, c4, c5, c6, c7⟩ := tz_W_3 hV
          have om : ∀ k : Int, 0 ≤ k → k < 5 → tz_mo (to_am v (tz_ado w)) k = tz_mo v k := fun k h1 h2 => o _ (by omega) (by omega)
          unfold tz_W3
          rw [o 3 (by omega) (by omega), o 4 (by omega) (by omega), o61, om 0 (by omega) (by omega)]
          refine ⟨c1, c2, fun k h1 h2 => ?_, fun j k h1 h2 h3 => ?_, c5, by omega, c7⟩
          · rw [om k h1 (by omega)]; exact c3 k h1 h2
          · rw [om j h1 (by omega), om k (by omega) (by omega)]; exact c4 j k h1 h2 h3
        · have hM := tz_W_M hV
          have om : tz_mo (to_am v (tz_ado w)) 0 = tz_mo v 0 := o _ (by omega) (by omega)
          unfold tz_WM
          rw [o 1 (by omega) (by omega), o 3 (by omega) (by omega), o 60 (by omega) (by omega), om]
          intro h1 h2
          obtain ⟨i, i1, i2, i3⟩ := hM h1 h2
          exact ⟨i, i1, i2, (o (43 + 2 * i) (by omega) (by omega)).trans i3⟩
      exact up _ (tz_k_rtop hA (by
        have : to_am v (tz_ado w) 3 = v 3 := by
          unfold to_am; rw [tz_fu_n (by omega)]
          split
          · rw [tz_fu_n (by omega)]
          · rfl
        rw [this]; exact q1.1))
    · rw [if_neg k1]
      cases c1 : tz_ado w
      · rw [if_pos rfl]; exact up _ hR
      · rw [if_neg (by decide)]
        by_cases k2 : tz_top w = 2
        · rw [if_pos k2]
          have t0 := tz_main_of hV (by omega) (by omega)
          have t1 := tz_pl_main hV t0.1 t0.2
          have t3 := tz_top_2 hV (by omega) (by omega)
          have o : ∀ j : Int, ¬ (j = 3 ∨ j = 55 + (v 3 - 1)) → to_rtop v j = v j := fun j h => to_rtop_o g0 q1 h (fun h => by omega)
          have hm : 0 < to_rtop v 3 ∧ tz_mo (to_rtop v) 0 = 0 := ⟨by rw [to_rtop_3 q1.1]; omega, (o (55 + 0) (by omega)).trans t0.2⟩
          have r1 := tz_pl_main hR hm.1 hm.2
          have rm := tz_mp_rng hR hm.1 hm.2
          generalize to_rtop v = z at *
          have z1 := (tz_W_2 hR).1
          unfold to_post
          have x1 : to_off z (tz_pl z (z 60)) 1 = z 1 - 1 := if_pos rfl
          have xo : ∀ j : Int, j ≠ 1 → ¬ (43 ≤ j ∧ j < 55) → to_lists (to_off z (tz_pl z (z 60))) (z 60) (tz_mp z) j = z j := fun j h1 h2 => by
            unfold to_lists
            rw [x1, tz_fu_n h1, tz_fu_n (by omega), tz_fu_n (by omega)]
            exact to_off_get h1 h2 r1.1 z1.2 (by omega)
          have e2 := tz_k_end (p := tz_mp z) (tz_W_2 hR) r1.1 r1.2.1 rm
          rw [r1.2.2] at e2
          exact up _ (tz_k_emp (tz_W1_c (tz_W_1 hR) (Int.le_refl _) (fun j h => xo j (by omega) (by omega))) e2 (tz_W4_c (tz_W_4 hR) (fun j h h' => xo j (by omega) (by omega))) (tz_W5_c (tz_W_5 hR) (Int.le_refl _) (fun j h => xo j (by omega) (by omega))))
        · rw [if_neg k2]
          by_cases k3 : tz_top w = 3
          · rw [if_pos k3]
            have t3 := tz_top_2 hV (by omega) (by omega)
            have r3 : 1 ≤ to_rtop v 3 := by rw [to_rtop_3 q1.1]; omega
            generalize to_rtop v = z at *
            have o : ∀ j : Int, j ≠ 4 → ts_fu z 4 1 j = z j := fun j h => tz_fu_n h
            refine up _ (tz_W_of (tz_W1_c (tz_W_1 hR) (Int.le_refl _) (fun j h => o j (by omega))) (tz_W2_c (tz_W_2 hR) (Int.le_refl _) (fun j h => o j (by omega))) ?_ (tz_WM_c (tz_W_M hR) (tz_W_2 hR).1.2 (fun j h => o j (by omega))) (tz_W4_c (tz_W_4 hR) (fun j h h' => o j (by omega))) (tz_W5_c (tz_W_5 hR) (Int.le_refl _) (fun j h => o j (by omega))))
            obtain ⟨c1, c2, c3, c4, c5, c6, c7⟩ := tz_W_3 hR
            have om : ∀ k : Int, 0 ≤ k → tz_mo (ts_fu z 4 1) k = tz_mo z k := fun k h1 => o _ (by omega)
            unfold tz_W3
            rw [o 3 (by omega), tz_fu_e, o 61 (by omega), om 0 (by omega)]
            refine ⟨c1, by omega, fun k h1 h2 => ?_, fun j k h1 h2 h3 => ?_, c5, c6, fun h => by omega⟩
            · rw [om k h1]; exact c3 k h1 h2
            · rw [om j h1, om k (by omega)]; exact c4 j k h1 h2 h3
          · rw [if_neg k3, if_pos (by omega)]
            unfold to_adj
            generalize to_rtop v = z at *
            have o : ∀ j : Int, j ≠ 5 → ts_fu z 5 (z 5 + 1) j = z j := fun j h => tz_fu_n h
            refine tz_W_mono (tz_k_emp (B := B + 2) (tz_W1_c (tz_W_1 hR) (by omega) (fun j h => o j (by omega))) (tz_W2_c (tz_W_2 hR) (by omega) (fun j h => o j (by omega))) (tz_W4_c (tz_W_4 hR) (fun j h h' => o j (by omega))) ?_) (by omega)
            obtain ⟨d1, d2, d3, d4⟩ := tz_W_5 hR
            unfold tz_W5
            rw [tz_fu_e, o 6 (by omega), o 7 (by omega), o 8 (by omega)]
            omega
end TZB
