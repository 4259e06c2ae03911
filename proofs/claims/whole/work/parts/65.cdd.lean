/-! ===== the class's vote ===== -/
section TZA
variable {B : Int} {Q : Int → ts_M → Prop} {Qv : ts_M → Prop} {M M' : ts_M} {b : Nat} {v w r x wa : Int → Int}
/-- the top motion taken off: the table stands for a row with one motion less -/
theorem tz_P3_pop (hP : tz_P3 b M v) (h1 : 1 ≤ v 3) (hc : M'.1 (b + 9) 1 = v 3 - 1) (hc2 : ∀ j : Int, j ≠ 1 → M'.1 (b + 9) j = M.1 (b + 9) j) (hc3 : M'.1 (b + 10) = M.1 (b + 10)) (r3 : r 3 = v 3 - 1) (r4 : r 4 = v 4) (rk : ∀ k : Int, 0 ≤ k → k < v 3 - 1 → tz_mo r k = tz_mo v k) (r60 : 0 < v 3 - 1 → r 60 = v 60) (r61 : ∀ k : Int, 0 ≤ k → k < v 3 - 1 → tz_mo v k = 1 → r 61 = v 61) : tz_P3 b M' r := by
  obtain ⟨a1, a2, a3, a4, a5⟩ := hP
  unfold tz_P3
  rw [r3, r4, hc, hc2 2 (by omega), hc2 3 (by omega), hc2 4 (by omega), hc3]
  refine ⟨rfl, fun h2 h3 => ?_, fun k h2 h3 h4 => ?_, a4, fun k h2 h3 => ?_⟩
  · rw [r60 h2]
    rw [rk 0 (by omega) h2] at h3
    exact a2 (by omega) h3
  · rw [rk k h2 h3] at h4
    rw [r61 k h2 h3 h4]
    exact a3 k h2 (by omega) h4
  · rw [rk k h2 h3]; exact a5 k h2 (by omega)
/-- behind the vote: nothing more to do where motions are left -/
theorem tc_b81 {c : Bool} (h1 : ts_w (M.1 (b + 9) 1) = M.1 (b + 9) 1) (hn : M.1 (b + 9) 1 ≠ 0 → Q (tz_i c) M) (hz : M.1 (b + 9) 1 = 0 → Q (tz_i c) (tz_fz b (ts_si M (b + 9) 4 0))) : wX9_decide_B81 b Q (tz_i c) M := by
  unfold wX9_decide_B81
  simp only [tz_iw, tz_i01, true_and]
  exact tc_anew h1 hn hz
theorem tz_fz_F {m : ts_M} (h : tz_F b M m) : tz_F b M (tz_fz b m) := ⟨fun a h1 => ⟨(tz_fz_ne (by omega)).trans (h.1 a h1).1, (h.1 a h1).2⟩, h.2⟩
theorem tc_decide (hB : B ≤ 900000000) (hW : tz_W B w) (hS : tz_S b M w) (h0 : w 3 ≠ 0) (hQ : ∀ M' : ts_M, tz_F b M M' → tz_S b M' (to_votes w) → Q (tz_i (tz_ado w)) M') : wX9_decide b Q M := by
  have hV := tz_k_v1 hW
  have ht := tz_top_pos hW h0
  have htn : ts_w (tz_top w) = tz_top w := tz_n (by omega) (by omega)
  have e3 := hW.2.2.2.1
  have hvt : tz_top (to_v1 w) = tz_top w := to_v1_top e3.1
  have v3 : to_v1 w 3 = w 3 := to_v1_o (by omega) (by omega)
  obtain ⟨a1, a2, a3, a4, a5⟩ := tz_S_3 hS
  -- the counters
  have start : (∀ m : ts_M, tz_F b M m → tz_S b m (to_v1 w) → wX9_decide_B41 b Q (tz_top w) (tz_i (tz_ado w)) m) → wX9_decide b Q M := by
    intro h
    unfold wX9_decide
    rw [tc_topRank a1 e3 a5]
    simp only [forall_eq]
    rw [tc_yesWeight hW hS (by omega) h0, tc_isEnough hW hS h0]
    simp only [forall_eq, tz_iw, tz_iz]
    obtain ⟨p1, p2, p3, p4, p5⟩ := tz_S_5 hS
    have o : ∀ j : Int, j ≠ 7 → j ≠ 8 → to_v1 w j = w j := fun j h1 h2 => to_v1_o h1 h2
    have parts : ∀ m : ts_M, (∀ a : Nat, a ≠ b → m.1 a = M.1 a) → m.2 = M.2 → (∀ j : Int, j ≠ 7 → j ≠ 8 → m.1 b j = M.1 b j) → m.1 b 7 = w 7 + 1 → m.1 b 8 = w 8 + tz_i (tz_ado w) → tz_S b m (to_v1 w) := fun m f1 f2 f3 f4 f5 => by
      refine tz_S_of (tz_P1_c (tz_S_1 hS) hW.1.2 (fun c h1 h2 => f1 _ (by omega)) (fun j h => o j (by omega) (by omega))) (tz_P2_c (tz_S_2 hS) hW.2.1.2 (fun c h1 h2 => f1 _ (by omega)) (fun j h => o j (by omega) (by omega))) (tz_P3_c (tz_S_3 hS) e3.2 (fun c h1 h2 => f1 _ (by omega)) (fun j h => o j (by omega) (by omega))) (tz_P4_c (tz_S_4 hS) (by rw [f2]) (fun j h h' => o j (by omega) (by omega))) ?_
      unfold tz_P5
      rw [f1 (b + 13) (by omega), f3 5 (by omega) (by omega), f3 6 (by omega) (by omega), f4, f5, to_v1_7, to_v1_8, o 5 (by omega) (by omega), o 6 (by omega) (by omega)]
      exact ⟨fun k h1 h2 => (p1 k h1 h2).trans (o (62 + k) (by omega) (by omega)).symm, p2, p3, rfl, rfl⟩
    cases c1 : tz_ado w
    · rw [tz_y rfl]
      have := h (ts_si M b 7 (M.1 b 7 + 1)) (tz_F_si0 tz_F_rfl) (parts _ (fun a h1 => ts_si_ne h1) rfl (fun j h1 h2 => tz_si_k h1) (by rw [tz_si_a, p4]) (by rw [tz_si_k (by omega), p5, c1]; show w 8 = w 8 + 0; omega))
      rw [c1] at this
      exact this
    · rw [tz_x (by decide)]
      have := h (ts_si (ts_si M b 7 (M.1 b 7 + 1)) b 8 ((ts_si M b 7 (M.1 b 7 + 1)).1 b 8 + 1)) (tz_F_si0 (tz_F_si0 tz_F_rfl)) (parts _ (fun a h1 => by rw [ts_si_ne h1, ts_si_ne h1]) rfl (fun j h1 h2 => by rw [tz_si_k h2, tz_si_k h1]) (by rw [tz_si_k (by omega), tz_si_a, p4]) (by rw [tz_si_a, tz_si_k (by omega), p5, c1]; rfl))
      rw [c1] at this
      exact this
  refine start (fun m hFm hSm => ?_)
  clear start
  have hQ' := hQ
  unfold to_votes at hQ'
  generalize hv : to_v1 w = v at *
  obtain ⟨b1, b2, b3, b4, b5⟩ := tz_S_3 hSm
  have hLv : tz_L v := tz_L_of (by omega) hV
  have q1 : 1 ≤ v 3 ∧ v 3 ≤ 5 := by omega
  unfold wX9_decide_B41
  rw [htn]
  by_cases k0 : tz_top w = 0
  · rw [tz_y2 k0]
    rw [if_pos k0] at hQ'
    have t0 := tz_top0 hV (by rw [hvt]; exact k0)
    have t1 := tz_pl_main hV (by omega) t0.2
    have t2 := tz_W60 (by omega) hV (by omega) t0.2
    have t3 := tz_W_5 hV
    have t36 : 0 ≤ v 6 ∧ v 6 ≤ B + 1 := t3.2.1
    -- behind the reward: y1 for the spoons, y for all
    have main : ∀ (m2 : ts_M) (y1 : Int → Int), (∀ a : Nat, a ≠ b + 1 → a ≠ b + 4 → m2.1 a = m.1 a) → m2.2 = m.2 → tz_P1 b m2 y1 → y1 = (if tz_ado w then to_rew v (v 0).toNat else v) → wX9_decide_B53 b Q (tz_top w) (tz_i (tz_ado w)) m2 := by
      intro m2 y1 f1 f2 f3 hy1
      have y1o : ∀ j : Int, ¬ (j = 9 ∨ (13 ≤ j ∧ j < 45 ∧ (j - 13) % 4 = 0)) → y1 j = v j := fun j h => by
        rw [hy1]
        split
        · exact to_rew_get _ _ (by have := hV.1; omega)
        · rfl
      unfold wX9_decide_B53
      refine tc_takeTop (w := v) (by rw [f1 _ (by omega) (by omega)]; exact b1) (by omega) q1.2 ?_
      rw [htn, tz_y2 k0, t0.1]
      have f4 : ∀ a : Nat, a ≠ b + 1 → a ≠ b + 4 → a ≠ b + 9 → (ts_si m2 (b + 9) 1 (1 - 1)).1 a = m.1 a := fun a h1 h2 h3 => by rw [ts_si_ne h3]; exact f1 a h1 h2
      have f9 : ∀ j : Int, j ≠ 1 → (ts_si m2 (b + 9) 1 (1 - 1)).1 (b + 9) j = m.1 (b + 9) j := fun j h => by rw [tz_si_k h, f1 _ (by omega) (by omega)]
      have f91 : (ts_si m2 (b + 9) 1 (1 - 1)).1 (b + 9) 1 = 0 := tz_si_a
      have f2' : (ts_si m2 (b + 9) 1 (1 - 1)).2 = m.2 := f2
      have f1s : ∀ c : Nat, 1 ≤ c → c ≤ 5 → (ts_si m2 (b + 9) 1 (1 - 1)).1 (b + c) = m2.1 (b + c) := fun c h1 h2 => ts_si_ne (by omega)
      generalize ts_si m2 (b + 9) 1 (1 - 1) = m3 at f4 f9 f91 f2' f1s ⊢
      -- the last steps: out of a memory m4 in which the minutes are written
      have last : ∀ (m4 : ts_M) (y : Int → Int), (∀ a : Nat, a ≠ b → a ≠ b + 13 → m4.1 a = m3.1 a) → m4.2 = m3.2 → tz_P5 b m4 y → (∀ j : Int, ¬ (j = 6 ∨ (62 ≤ j ∧ j < 82)) → y j = y1 j) → y = (if tz_ado w then to_min (to_rew v (v 0).toNat) else v) → wX9_settleMain_B35 b (fun M13 => wX9_decide_B81 b Q (tz_i (tz_ado w)) M13) m4 := by
        intro m4 y g1 g2 g5 gy hy
        have m9 : m4.1 (b + 9) 2 = v 60 := by rw [g1 _ (by omega) (by omega), f9 2 (by omega), b2 (by omega) t0.2]
        unfold wX9_settleMain_B35
        rw [m9]
        have P2m : tz_P2 b m4 v := tz_P2_c (tz_S_2 hSm) hLv.1.2 (fun c h1 h2 => by rw [g1 _ (by omega) (by omega), f4 _ (by omega) (by omega) (by omega)]) (fun j h => rfl)
        refine tc_remove P2m hLv (by rw [t2]; exact t1.1) (fun m5 k1 k2 k3 => ?_)
        rw [t2] at k3
        have c91 : m5.1 (b + 9) 1 = 0 := by rw [k1 _ (by omega) (by omega) (by omega), g1 _ (by omega) (by omega)]; exact f91
        have yv : ∀ j : Int, ¬ (j = 6 ∨ (62 ≤ j ∧ j < 82)) → ¬ (j = 9 ∨ (13 ≤ j ∧ j < 45 ∧ (j - 13) % 4 = 0)) → y j = v j := fun j h1 h2 => (gy j h1).trans (y1o j h2)
        have yp : tz_pl y (y 60) = tz_pl v (v 60) := by
          rw [yv 60 (by omega) (by omega)]
          exact tz_pl_congr hLv.1.2 (yv 1 (by omega) (by omega)) (fun k h1 h2 => yv k (by omega) (by omega))
        have hx : to_votes w = to_emp (to_off y (tz_pl y (y 60))) := by
          unfold to_votes
          rw [hv, if_pos k0]
          unfold to_dec to_out
          rw [← hy]
        have y1r : y 1 = v 1 := yv 1 (by omega) (by omega)
        have xo : ∀ j : Int, j ≠ 1 → ¬ (43 ≤ j ∧ j < 55) → to_off y (tz_pl y (y 60)) j = y j := fun j h1 h2 => to_off_get h1 h2 (by rw [yp]; exact t1.1) (by rw [y1r]; exact hLv.1.2) (by rw [y1r]; omega)
        have fin : tz_S b (tz_fz b (ts_si m5 (b + 9) 4 0)) (to_votes w) := by
          rw [hx]
          refine tc_finish0 (wa := y1) ?_ ?_ ?_ ?_ ?_ (fun s k h1 h2 h3 h4 => ?_) ?_ ?_ ?_ ?_ c91
          · refine tz_P1_c f3 ?_ (fun c h1 h2 => ?_) (fun j h => rfl)
            · rw [y1o 0 (by omega)]; exact hV.1.2
            · rw [k1 _ (by omega) (by omega) (by omega), g1 _ (by omega) (by omega), f1s c h1 h2]
          · rw [xo 0 (by omega) (by omega), yv 0 (by omega) (by omega)]; exact hV.1
          · rw [xo 0 (by omega) (by omega)]; exact gy 0 (by omega)
          · rw [xo 9 (by omega) (by omega)]; exact gy 9 (by omega)
          · rw [xo 10 (by omega) (by omega)]; exact gy 10 (by omega)
          · have := hV.1
            rw [y1o 0 (by omega)] at h2
            unfold tz_a
            rw [xo _ (by omega) (by omega)]; exact gy _ (by omega)
          · refine tz_P2_c k3 ?_ (fun c h1 h2 => rfl) (fun j h => ?_)
            · have : to_off v (tz_pl v (v 60)) 1 = v 1 - 1 := if_pos rfl
              rw [this]; have := hLv.1.2; omega
            · rw [yp]
              unfold to_off
              have r1 : ∀ j : Int, j = 1 ∨ j = 2 ∨ (43 ≤ j ∧ j < 57) → y j = v j := fun j h => yv j (by omega) (by omega)
              have := hLv.1.2
              rw [r1 1 (by omega), r1 j (by omega)]
              by_cases z1 : j = 1
              · rw [if_pos z1, if_pos z1]
              · rw [if_neg z1, if_neg z1]
                by_cases z2 : 43 + 2 * tz_pl v (v 60) ≤ j ∧ j < 43 + 2 * (v 1 - 1)
                · rw [if_pos z2, if_pos z2, r1 (j + 2) (by have := t1.1; omega)]
                · rw [if_neg z2, if_neg z2]
          · have : to_off y (tz_pl y (y 60)) 1 = y 1 - 1 := if_pos rfl
            rw [this, y1r]; have := hLv.1.2; omega
          · exact tz_P4_c (tz_S_4 hSm) (by rw [k2, g2, f2']) (fun j h1 h2 => by rw [xo j (by omega) (by omega)]; exact yv j (by omega) (by omega))
          · refine tz_P5_c g5 (k1 b (by omega) (by omega) (by omega)) (k1 _ (by omega) (by omega) (by omega)) (fun j h => xo j (by omega) (by omega))
        have fr : tz_F b M m5 := tz_F_tr hFm ⟨fun a h => ⟨by rw [k1 a (by omega) (by omega) (by omega), g1 a (by omega) (by omega), f4 a (by omega) (by omega) (by omega)], by rw [k2, g2, f2']⟩, by rw [k2, g2, f2']⟩
        refine tc_b81 (by rw [c91]; rfl) (fun h => absurd c91 h) (fun _ => hQ _ (tz_fz_F (tz_F_si (by omega) fr)) fin)
      have P5m : tz_P5 b m3 v := tz_P5_c (tz_S_5 hSm) (f4 b (by omega) (by omega) (by omega)) (f4 _ (by omega) (by omega) (by omega)) (fun j h => rfl)
      unfold wX9_settleMain
      rw [tz_iw, tz_iz]
      cases c1 : tz_ado w
      · rw [tz_y rfl]
        have := last m3 v (fun _ _ _ => rfl) rfl P5m (fun j h => by rw [hy1, c1]; rfl) (by rw [c1]; rfl)
        rw [c1] at this
        exact this
      · rw [tz_x (by decide)]
        obtain ⟨p1, p2, p3, p4, p5⟩ := P5m
        have e6 : 0 ≤ v 6 % 20 ∧ v 6 % 20 < 20 := ⟨Int.emod_nonneg _ (by omega), Int.emod_lt_of_pos _ (by omega)⟩
        rw [p2, tc_floorMod t3.2.1.1 (by omega) (by omega) (by omega), tz_n (x := v 6 % 20) (by omega) (by omega), tz_p ⟨e6.1, by omega⟩]
        simp only [forall_eq]
        have m9 : m3.1 (b + 9) 2 = v 60 := by rw [f9 2 (by omega), b2 (by omega) t0.2]
        have := last (ts_si (ts_si m3 (b + 13) (v 6 % 20) (m3.1 (b + 9) 2)) b 5 ((ts_si m3 (b + 13) (v 6 % 20) (m3.1 (b + 9) 2)).1 b 5 + 1)) (to_min (to_rew v (v 0).toNat)) (fun a h1 h2 => by rw [ts_si_ne h1, ts_si_ne h2]) rfl ?_ (fun j h => by
          rw [hy1, c1]
          have r6 : to_rew v (v 0).toNat 6 = v 6 := to_rew_get _ _ (by omega)
          exact to_min_get (by rw [r6]; exact t3.2.1.1) h) (by rw [c1]; rfl)
        · rw [c1] at this
          exact this
        · have r6 : to_rew v (v 0).toNat 6 = v 6 := to_rew_get _ _ (by omega)
          have r60 : to_rew v (v 0).toNat 60 = v 60 := to_rew_get _ _ (by have := hV.1; omega)
          have rr : ∀ j : Int, (5 ≤ j ∧ j ≤ 8) ∨ (62 ≤ j ∧ j < 82) → to_rew v (v 0).toNat j = v j := fun j h => to_rew_get _ _ (by have := hV.1; omega)
          unfold tz_P5 to_min
          rw [r6, r60, tz_fu_e]
          have n1 : ∀ j : Int, j ≠ 6 → j ≠ 62 + v 6 % 20 → ts_fu (ts_fu (to_rew v (v 0).toNat) (62 + v 6 % 20) (v 60)) 6 (v 6 + 1) j = to_rew v (v 0).toNat j := fun j h1 h2 => by rw [tz_fu_n h1, tz_fu_n h2]
          rw [n1 5 (by omega) (by omega), n1 7 (by omega) (by omega), n1 8 (by omega) (by omega), rr 5 (by omega), rr 7 (by omega), rr 8 (by omega)]
          refine ⟨fun k h1 h2 => ?_, ?_, ?_, ?_, ?_⟩
          · rw [ts_si_ne (by omega)]
            by_cases z1 : k = v 6 % 20
            · subst z1
              rw [tz_si_a, m9]
              unfold tz_mi
              rw [tz_fu_n (by omega), tz_fu_e]
            · rw [tz_si_k z1, p1 k h1 h2]
              unfold tz_mi
              rw [n1 _ (by omega) (by omega), rr _ (by omega)]
          · rw [tz_si_a, ts_si_ne (by omega), p2]
          · rw [tz_si_k (by omega), ts_si_ne (by omega)]; exact p3
          · rw [tz_si_k (by omega), ts_si_ne (by omega)]; exact p4
          · rw [tz_si_k (by omega), ts_si_ne (by omega)]; exact p5
    rw [tz_iw, tz_iz]
    cases c1 : tz_ado w
    · rw [tz_y rfl]
      have := main m v (fun _ _ _ => rfl) rfl (tz_S_1 hSm) (by rw [c1]; rfl)
      rw [c1] at this
      exact this
    · rw [tz_x (by decide)]
      refine tc_reward hV (by omega) hSm (by rw [hvt]; exact k0) (fun m2 f1 f2 f3 => ?_)
      have := main m2 _ f1 f2 f3 (by rw [c1]; rfl)
      rw [c1] at this
      exact this
  · rw [tz_x2 k0]
    rw [if_neg k0] at hQ'
    unfold wX9_decide_B53
    refine tc_takeTop (w := v) b1 (by omega) q1.2 ?_
    rw [htn, tz_x2 k0, tz_iw, tz_iz]
    have fF : tz_F b M (ts_si m (b + 9) 1 (v 3 - 1)) := tz_F_si (by omega) hFm
    have c91 : (ts_si m (b + 9) 1 (v 3 - 1)).1 (b + 9) 1 = v 3 - 1 := tz_si_a
    have f9 : ∀ j : Int, j ≠ 1 → (ts_si m (b + 9) 1 (v 3 - 1)).1 (b + 9) j = m.1 (b + 9) j := fun j h => tz_si_k h
    have fo : ∀ a : Nat, a ≠ b + 9 → (ts_si m (b + 9) 1 (v 3 - 1)).1 a = m.1 a := fun a h => ts_si_ne h
    have f2 : (ts_si m (b + 9) 1 (v 3 - 1)).2 = m.2 := rfl
    generalize ts_si m (b + 9) 1 (v 3 - 1) = m3 at fF c91 f9 fo f2 ⊢
    have g0 := hV.1
    have g1 := hLv.1
    have P1m : tz_P1 b m3 v := tz_P1_c (tz_S_1 hSm) g0.2 (fun c h1 h2 => fo _ (by omega)) (fun j h => rfl)
    have P2m : tz_P2 b m3 v := tz_P2_c (tz_S_2 hSm) g1.2 (fun c h1 h2 => fo _ (by omega)) (fun j h => rfl)
    have P4m : tz_P4 b m3 v := tz_P4_c (tz_S_4 hSm) (by rw [f2]) (fun j h h' => rfl)
    have P5m : tz_P5 b m3 v := tz_P5_c (tz_S_5 hSm) (fo _ (by omega)) (fo _ (by omega)) (fun j h => rfl)
    have c10 : m3.1 (b + 10) = m.1 (b + 10) := fo _ (by omega)
    have n91 : ts_w (v 3 - 1) = v 3 - 1 := tz_n (by omega) (by omega)
    -- a row that ends in the removal of the top motion
    have ending : ∀ (m4 : ts_M) (u : Int → Int), tz_F b M m4 → tz_P1 b m4 u → tz_P2 b m4 u → tz_P4 b m4 u → tz_P5 b m4 u → m4.1 (b + 9) = m3.1 (b + 9) → m4.1 (b + 10) = m3.1 (b + 10) → u 3 = v 3 → u 4 = v 4 → (∀ k : Int, 0 ≤ k → k < v 3 → tz_mo u k = tz_mo v k) → u 60 = v 60 → (∀ k : Int, 0 ≤ k → k < v 3 - 1 → tz_mo v k = 1 → u 61 = v 61) → u 0 = v 0 → u 1 ≤ 6 → to_votes w = to_rtop u → wX9_decide_B81 b Q (tz_i (tz_ado w)) m4 := by
      intro m4 u hF4 d1 d2 d4 d5 h9 h10 u3 u4 uk u60 u61 u0 u1 hx
      have d91 : m4.1 (b + 9) 1 = v 3 - 1 := by rw [h9]; exact c91
      refine tc_b81 (by rw [d91]; exact n91) (fun hn => hQ _ hF4 ?_) (fun hz => hQ _ (tz_fz_F (tz_F_si (by omega) hF4)) ?_)
      · rw [d91] at hn
        have u3n : ¬ u 3 = 1 := by omega
        have o : ∀ j : Int, ¬ (j = 3 ∨ j = 55 + (v 3 - 1)) → to_rtop u j = u j := fun j h => by
          unfold to_rtop; rw [if_neg u3n, u3, tz_fu_n (by omega), tz_fu_n (by omega)]
        have o3 : to_rtop u 3 = v 3 - 1 := by rw [to_rtop_3 (by omega), u3]
        rw [hx]
        refine tz_S_of (tz_P1_c d1 (by omega) (fun c h1 h2 => rfl) (fun j h => o j (by omega))) (tz_P2_c d2 u1 (fun c h1 h2 => rfl) (fun j h => o j (by omega))) ?_ (tz_P4_c d4 rfl (fun j h h' => o j (by omega))) (tz_P5_c d5 rfl rfl (fun j h => o j (by omega)))
        refine tz_P3_pop (tz_S_3 hSm) q1.1 d91 (fun j h => by rw [h9]; exact f9 j h) (by rw [h10]; exact c10) o3 (by rw [o 4 (by omega)]; exact u4) (fun k h1 h2 => ?_) (fun h => by rw [o 60 (by omega)]; exact u60) (fun k h1 h2 h3 => by rw [o 61 (by omega)]; exact u61 k h1 h2 h3)
        exact (o (55 + k) (by omega)).trans (uk k h1 (by omega))
      · rw [d91] at hz
        have u3n : u 3 = 1 := by omega
        have hx2 : to_rtop u = to_emp (ts_fu (ts_fu u 3 (u 3 - 1)) (55 + (u 3 - 1)) 0) := by unfold to_rtop; rw [if_pos u3n]
        have o : ∀ j : Int, ¬ (j = 3 ∨ j = 55) → ts_fu (ts_fu u 3 (u 3 - 1)) (55 + (u 3 - 1)) 0 j = u j := fun j h => by rw [tz_fu_n (by omega), tz_fu_n (by omega)]
        rw [hx, hx2]
        exact tc_finish0 (wa := u) d1 (by rw [o 0 (by omega), u0]; exact g0) (o 0 (by omega)) (o 9 (by omega)) (o 10 (by omega)) (fun s k h1 h2 h3 h4 => o _ (by omega)) (tz_P2_c d2 u1 (fun c h1 h2 => rfl) (fun j h => o j (by omega))) (by rw [o 1 (by omega)]; exact u1) (tz_P4_c d4 rfl (fun j h h' => o j (by omega))) (tz_P5_c d5 rfl rfl (fun j h => o j (by omega))) (by rw [d91]; omega)
    -- out of an empty table
    have ending0 : ∀ (m4 : ts_M) (x : Int → Int), tz_F b M m4 → tz_P1 b m4 v → tz_P2 b m4 x → tz_P4 b m4 x → tz_P5 b m4 x → m4.1 (b + 9) 1 = 0 → x 0 = v 0 → x 9 = v 9 → x 10 = v 10 → (∀ s k : Int, 0 ≤ s → s < v 0 → 0 ≤ k → k ≤ 2 → tz_a x s k = tz_a v s k) → x 1 ≤ 6 → to_votes w = to_emp x → wX9_decide_B81 b Q (tz_i (tz_ado w)) m4 := by
      intro m4 x hF4 d1 d2 d4 d5 h91 x0 x9 x10 xs x1 hx
      refine tc_b81 (by rw [h91]; rfl) (fun hn => absurd h91 hn) (fun _ => hQ _ (tz_fz_F (tz_F_si (by omega) hF4)) ?_)
      rw [hx]
      exact tc_finish0 (wa := v) d1 (by rw [x0]; exact g0) x0 x9 x10 xs d2 x1 d4 d5 h91
    have self : to_votes w = to_rtop v → wX9_decide_B81 b Q (tz_i (tz_ado w)) m3 := fun h => ending m3 v fF P1m P2m P4m P5m rfl rfl rfl rfl (fun _ _ _ => rfl) rfl (fun _ _ _ _ => rfl) rfl g1.2 h
    have hvo : to_votes w = if tz_top w = 1 then to_rtop (to_am v (tz_ado w)) else if tz_ado w = false then to_rtop v else if tz_top w = 2 then to_post (to_rtop v) else if tz_top w = 3 then ts_fu (to_rtop v) 4 1 else if tz_top w = 4 then to_adj (to_rtop v) else to_rtop v := by
      unfold to_votes; rw [if_neg k0, hv]
    by_cases k1 : tz_top w = 1
    · rw [if_pos k1] at hvo
      have t0 := tz_main_of hV (by omega) (by omega)
      have t1 := tz_pl_main hV t0.1 t0.2
      have t2 := tz_W60 (by omega) hV t0.1 t0.2
      have t3 := tz_L_mp hLv t1.1
      have t4 : ∀ k : Int, 0 ≤ k → k < v 3 - 1 → tz_mo v k ≠ 1 := fun k h1 h2 h3 => by
        have h4 := (tz_W_3 hV).2.2.2.1 k (v 3 - 1) h1 h2 (by omega)
        have h5 : tz_top v = tz_mo v (v 3 - 1) := by unfold tz_top; rw [if_neg (by omega)]
        omega
      cases c1 : tz_ado w
      · rw [tz_y rfl]
        have h := ending m3 (to_am v false)
        rw [c1] at h hvo
        have o : ∀ j : Int, j ≠ 61 → to_am v false j = v j := fun j h => tz_fu_n h
        exact h fF (tz_P1_c P1m g0.2 (fun c h1 h2 => rfl) (fun j h => o j (by omega))) (tz_P2_c P2m g1.2 (fun c h1 h2 => rfl) (fun j h => o j (by omega))) (tz_P4_c P4m rfl (fun j h h' => o j (by omega))) (tz_P5_c P5m rfl rfl (fun j h => o j (by omega))) rfl rfl (o 3 (by omega)) (o 4 (by omega)) (fun k h1 h2 => o (55 + k) (by omega)) (o 60 (by omega)) (fun k h1 h2 h3 => absurd h3 (t4 k h1 h2)) (o 0 (by omega)) (by rw [o 1 (by omega)]; exact g1.2) hvo
      · rw [tz_x (by decide)]
        unfold wX9_takeEffect
        rw [htn, tz_y k1]
        have m9 : m3.1 (b + 9) 2 = v 60 := by rw [f9 2 (by omega)]; exact b2 t0.1 t0.2
        have m93 : m3.1 (b + 9) 3 = v 61 := by
          rw [f9 3 (by omega)]
          refine b3 (v 3 - 1) (by omega) (by omega) ?_
          have h5 : tz_top v = tz_mo v (v 3 - 1) := by unfold tz_top; rw [if_neg (by omega)]
          omega
        obtain ⟨l1, l2, l3⟩ := P2m
        have po : tz_po v (v 60) = tz_mp v := by unfold tz_po tz_mp; rw [if_neg (by omega)]
        unfold wX9_mainPosition
        rw [tc_positionOf l1 hLv (fun i h1 h2 => (l3 i h1 h2).1) (fun i h1 h2 => (l3 i h1 h2).2), m9, t2, po]
        dsimp only
        rw [tc_amended t3.1 t3.2 (by rw [m93]; exact tz_W61 hV), m93]
        have P2m' : tz_P2 b m3 v := ⟨l1, l2, l3⟩
        refine tc_setPosition P2m' hLv (by rw [t2]; exact t1.1) (fun m4 r1 r2 r3 => ?_)
        rw [t2] at r3
        unfold wX9_takeEffect_B99
        have h := ending m4 (to_am v true)
        rw [c1] at h hvo
        have o : ∀ j : Int, j ≠ 61 → j ≠ 43 + 2 * tz_pl v (v 60) + 1 → to_am v true j = v j := fun j h1 h2 => by
          unfold to_am; rw [tz_fu_n h1, if_pos rfl, tz_fu_n h2]
        have f4 : ∀ a : Nat, a ≠ b + 8 → m4.1 a = m3.1 a := r1
        refine h ⟨fun a h1 => ⟨(f4 a (by omega)).trans (fF.1 a h1).1, by rw [r2]; exact (fF.1 a h1).2⟩, by rw [r2]; exact fF.2⟩ (tz_P1_c P1m g0.2 (fun c h1 h2 => f4 _ (by omega)) (fun j h => o j (by omega) (by omega))) (tz_P2_c r3 ?_ (fun c h1 h2 => rfl) (fun j h => ?_)) (tz_P4_c P4m (by rw [r2]) (fun j h h' => o j (by omega) (by omega))) (tz_P5_c P5m (f4 _ (by omega)) (f4 _ (by omega)) (fun j h => o j (by omega) (by omega))) (f4 _ (by omega)) (f4 _ (by omega)) (o 3 (by omega) (by omega)) (o 4 (by omega) (by omega)) (fun k h1 h2 => o (55 + k) (by omega) (by omega)) (o 60 (by omega) (by omega)) (fun k h1 h2 h3 => absurd h3 (t4 k h1 h2)) (o 0 (by omega) (by omega)) (by rw [o 1 (by omega) (by omega)]; exact g1.2) hvo
        · rw [tz_fu_n (by omega)]; exact g1.2
        · unfold to_am
          rw [tz_fu_n (by omega), if_pos rfl]
          rfl
    · rw [if_neg k1] at hvo
      cases c1 : tz_ado w
      · rw [tz_y rfl]
        rw [c1, if_pos rfl] at hvo
        have h := self hvo
        rw [c1] at h
        exact h
      · rw [tz_x (by decide)]
        rw [c1, if_neg (by decide)] at hvo
        rw [c1] at ending ending0
        unfold wX9_takeEffect wX9_takeEffect_B99
        rw [htn, tz_x k1]
        by_cases k2 : tz_top w = 2
        · rw [if_pos k2] at hvo
          rw [tz_y k2]
          have t0 := tz_main_of hV (by omega) (by omega)
          have t1 := tz_pl_main hV t0.1 t0.2
          have t2 := tz_W60 (by omega) hV t0.1 t0.2
          have t3 := tz_top_2 hV (by omega) (by omega)
          have o : ∀ j : Int, ¬ (j = 3 ∨ j = 55 + (v 3 - 1)) → to_rtop v j = v j := fun j h => to_rtop_o g0 q1 h (fun h => by omega)
          have p1 : tz_pl (to_rtop v) (v 60) = tz_pl v (v 60) := tz_pl_congr g1.2 (o 1 (by omega)) (fun k h1 h2 => o k (by omega))
          have p2 : tz_mp (to_rtop v) = tz_pp v (tz_pl v (v 60)) := tz_mp_congr g1.2 (o 1 (by omega)) (fun k h1 h2 => o k (by omega)) (o 60 (by omega)) t1.1
          have m9 : m3.1 (b + 9) 2 = v 60 := by rw [f9 2 (by omega)]; exact b2 t0.1 t0.2
          unfold wX10_clear
          simp only [forall_eq]
          have m9' : (ts_si m3 (b + 9) 1 0).1 (b + 9) 2 = v 60 := by rw [tz_si_k (by omega)]; exact m9
          rw [m9']
          have P2c : tz_P2 b (ts_si m3 (b + 9) 1 0) v := tz_P2_c P2m g1.2 (fun c h1 h2 => ts_si_ne (by omega)) (fun j h => rfl)
          refine tc_moveToEnd P2c hLv (by rw [t2]; exact t1.1) (fun m5 r1 r2 r3 => ?_)
          rw [t2] at r3
          have hx : to_post (to_rtop v) = to_emp (to_lists (to_off (to_rtop v) (tz_pl v (v 60))) (v 60) (tz_pp v (tz_pl v (v 60)))) := by
            unfold to_post; rw [o 60 (by omega), p1, p2]
          have x1 : to_off (to_rtop v) (tz_pl v (v 60)) 1 = v 1 - 1 := by
            have : to_off (to_rtop v) (tz_pl v (v 60)) 1 = to_rtop v 1 - 1 := if_pos rfl
            rw [this, o 1 (by omega)]
          have x1' : to_off v (tz_pl v (v 60)) 1 = v 1 - 1 := if_pos rfl
          have xo : ∀ j : Int, j ≠ 1 → ¬ (43 ≤ j ∧ j < 55) → to_lists (to_off (to_rtop v) (tz_pl v (v 60))) (v 60) (tz_pp v (tz_pl v (v 60))) j = to_rtop v j := fun j h1 h2 => by
            unfold to_lists
            rw [x1, tz_fu_n h1, tz_fu_n (by omega), tz_fu_n (by omega)]
            exact to_off_get h1 h2 t1.1 (by rw [o 1 (by omega)]; exact g1.2) (by rw [o 1 (by omega)]; omega)
          have g5 : ∀ a : Nat, a ≠ b + 6 → a ≠ b + 7 → a ≠ b + 8 → a ≠ b + 9 → m5.1 a = m3.1 a := fun a h1 h2 h3 h4 => (r1 a h1 h2 h3).trans (ts_si_ne h4)
          have g52 : m5.2 = m3.2 := r2
          refine ending0 m5 _ ⟨fun a h1 => ⟨(g5 a (by omega) (by omega) (by omega) (by omega)).trans (fF.1 a h1).1, by rw [g52]; exact (fF.1 a h1).2⟩, by rw [g52]; exact fF.2⟩ (tz_P1_c P1m g0.2 (fun c h1 h2 => g5 _ (by omega) (by omega) (by omega) (by omega)) (fun j h => rfl)) (tz_P2_c r3 ?_ (fun c h1 h2 => rfl) (fun j h => ?_)) (tz_P4_c P4m (by rw [g52]) (fun j h h' => by rw [xo j (by omega) (by omega)]; exact o j (by omega))) (tz_P5_c P5m (g5 b (by omega) (by omega) (by omega) (by omega)) (g5 _ (by omega) (by omega) (by omega) (by omega)) (fun j h => by rw [xo j (by omega) (by omega)]; exact o j (by omega))) ?_ (by rw [xo 0 (by omega) (by omega)]; exact o 0 (by omega)) (by rw [xo 9 (by omega) (by omega)]; exact o 9 (by omega)) (by rw [xo 10 (by omega) (by omega)]; exact o 10 (by omega)) (fun s k h1 h2 h3 h4 => by unfold tz_a; rw [xo _ (by omega) (by omega)]; exact o _ (by omega)) ?_ (hvo.trans hx)
          · unfold to_lists; rw [tz_fu_e, x1']; omega
          · unfold to_lists
            rw [x1, x1']
            have xx : ∀ j : Int, j = 1 ∨ j = 2 ∨ (43 ≤ j ∧ j < 55) → to_off (to_rtop v) (tz_pl v (v 60)) j = to_off v (tz_pl v (v 60)) j := fun j h => by
              unfold to_off
              rw [o 1 (by omega)]
              by_cases z1 : j = 1
              · rw [if_pos z1, if_pos z1]
              · rw [if_neg z1, if_neg z1]
                by_cases z2 : 43 + 2 * tz_pl v (v 60) ≤ j ∧ j < 43 + 2 * (v 1 - 1)
                · rw [if_pos z2, if_pos z2, o (j + 2) (by omega)]
                · rw [if_neg z2, if_neg z2, o j (by omega)]
            unfold ts_fu
            rw [xx j h]
          · rw [r1 _ (by omega) (by omega) (by omega), tz_si_a]
          · unfold to_lists; rw [tz_fu_e, x1]; omega
        · rw [if_neg k2] at hvo
          rw [tz_x k2]
          by_cases k3 : tz_top w = 3
          · rw [if_pos k3] at hvo
            rw [tz_y k3]
            simp only [forall_eq]
            have t3 := tz_top_2 hV (by omega) (by omega)
            have o : ∀ j : Int, ¬ (j = 3 ∨ j = 55 + (v 3 - 1)) → to_rtop v j = v j := fun j h => to_rtop_o g0 q1 h (fun h => by omega)
            have oo : ∀ j : Int, j ≠ 4 → ¬ (j = 3 ∨ j = 55 + (v 3 - 1)) → ts_fu (to_rtop v) 4 1 j = v j := fun j h1 h2 => by rw [tz_fu_n h1]; exact o j h2
            have d91 : (ts_si m3 (b + 9) 4 1).1 (b + 9) 1 = v 3 - 1 := by rw [tz_si_k (by omega)]; exact c91
            have res := tc_b81 (b := b) (Q := Q) (M := ts_si m3 (b + 9) 4 1) (c := true) (by rw [d91]; exact n91) (fun hn => by
              have hq := hQ (ts_si m3 (b + 9) 4 1) (tz_F_si (by omega) fF) (by
                rw [hvo]
                refine tz_S_of (tz_P1_c P1m g0.2 (fun c h1 h2 => ts_si_ne (by omega)) (fun j h => oo j (by omega) (by omega))) (tz_P2_c P2m g1.2 (fun c h1 h2 => ts_si_ne (by omega)) (fun j h => oo j (by omega) (by omega))) ?_ (tz_P4_c P4m rfl (fun j h h' => oo j (by omega) (by omega))) (tz_P5_c P5m (ts_si_ne (by omega)) (ts_si_ne (by omega)) (fun j h => oo j (by omega) (by omega)))
                have r3 : ts_fu (to_rtop v) 4 1 3 = v 3 - 1 := by rw [tz_fu_n (by omega)]; exact to_rtop_3 q1.1
                unfold tz_P3
                rw [r3, tz_fu_e, oo 60 (by omega) (by omega), oo 61 (by omega) (by omega)]
                have rk : ∀ k : Int, 0 ≤ k → k < v 3 - 1 → tz_mo (ts_fu (to_rtop v) 4 1) k = tz_mo v k := fun k h1 h2 => oo (55 + k) (by omega) (by omega)
                refine ⟨d91, fun h1 h2 => ?_, fun k h1 h2 h3 => ?_, tz_si_a, fun k h1 h2 => ?_⟩
                · rw [rk 0 (by omega) h1] at h2
                  rw [tz_si_k (by omega), f9 2 (by omega)]; exact b2 (by omega) h2
                · rw [rk k h1 h2] at h3
                  rw [tz_si_k (by omega), f9 3 (by omega)]; exact b3 k h1 (by omega) h3
                · rw [rk k h1 h2, ts_si_ne (by omega), c10]; exact b5 k h1 (by omega))
              rw [c1] at hq
              exact hq) (fun hz => by rw [d91] at hz; omega)
            exact res
          · rw [if_neg k3] at hvo
            have k4 : tz_top w = 4 := by omega
            rw [if_pos k4] at hvo
            rw [tz_x k3, tz_y k4]
            unfold wX9_endSitting wX10_clear
            simp only [forall_eq]
            have hR := tz_k_rtop hV q1.1
            have o5 : ∀ j : Int, j ≠ 3 → ¬ (55 ≤ j ∧ j < 62) → j ≠ 4 → ¬ (14 ≤ j ∧ j < 43 ∧ (j - 14) % 4 = 0) → to_rtop v j = v j := fun j h1 h2 h3 h4 => to_rtop_o g0 q1 (by omega) (fun _ => by omega)
            have xo : ∀ j : Int, j ≠ 5 → j ≠ 3 → ¬ (55 ≤ j ∧ j < 62) → j ≠ 4 → ¬ (14 ≤ j ∧ j < 43 ∧ (j - 14) % 4 = 0) → ts_fu (to_rtop v) 5 (to_rtop v 5 + 1) j = v j := fun j h0 h1 h2 h3 h4 => by rw [tz_fu_n h0]; exact o5 j h1 h2 h3 h4
            have r6 : (ts_si m3 (b + 9) 1 0).1 b 6 = v 5 := by rw [ts_si_ne (by omega)]; exact P5m.2.2.1
            rw [r6]
            refine ending0 (ts_si (ts_si m3 (b + 9) 1 0) b 6 (v 5 + 1)) (ts_fu (to_rtop v) 5 (to_rtop v 5 + 1)) (tz_F_si0 (tz_F_si (by omega) fF)) (tz_P1_c P1m g0.2 (fun c h1 h2 => by rw [ts_si_ne (by omega), ts_si_ne (by omega)]) (fun j h => rfl)) (tz_P2_c P2m g1.2 (fun c h1 h2 => by rw [ts_si_ne (by omega), ts_si_ne (by omega)]) (fun j h => xo j (by omega) (by omega) (by omega) (by omega) (by omega))) (tz_P4_c P4m rfl (fun j h h' => xo j (by omega) (by omega) (by omega) (by omega) (by omega))) ?_ ?_ (xo 0 (by omega) (by omega) (by omega) (by omega) (by omega)) (xo 9 (by omega) (by omega) (by omega) (by omega) (by omega)) (xo 10 (by omega) (by omega) (by omega) (by omega) (by omega)) (fun s k h1 h2 h3 h4 => xo _ (by omega) (by omega) (by omega) (by omega) (by omega)) (by rw [xo 1 (by omega) (by omega) (by omega) (by omega) (by omega)]; exact g1.2) hvo
            · obtain ⟨p1, p2, p3, p4, p5⟩ := P5m
              unfold tz_P5
              have e5 := o5 5 (by omega) (by omega) (by omega) (by omega)
              rw [e5] at xo ⊢
              rw [tz_fu_e, xo 6 (by omega) (by omega) (by omega) (by omega) (by omega), xo 7 (by omega) (by omega) (by omega) (by omega) (by omega), xo 8 (by omega) (by omega) (by omega) (by omega) (by omega)]
              refine ⟨fun k h1 h2 => ?_, ?_, tz_si_a, ?_, ?_⟩
              · rw [ts_si_ne (by omega), ts_si_ne (by omega), p1 k h1 h2]
                exact (xo (62 + k) (by omega) (by omega) (by omega) (by omega) (by omega)).symm
              · rw [tz_si_k (by omega), ts_si_ne (by omega)]; exact p2
              · rw [tz_si_k (by omega), ts_si_ne (by omega)]; exact p4
              · rw [tz_si_k (by omega), ts_si_ne (by omega)]; exact p5
            · rw [ts_si_ne (by omega), tz_si_a]
end TZA
