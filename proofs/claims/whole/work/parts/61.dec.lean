/-! ===== a vote: the reference's row, and the class's State behind it ===== -/
section TZI
variable {p p1 p2 p3 lo up B v : Int} {Q : Int → ts_M → Prop} {Qv : ts_M → Prop} {M M' M'' : ts_M} {b : Nat} {w w2 x wa : Int → Int}
theorem to_v1_o {j : Int} (h1 : j ≠ 7) (h2 : j ≠ 8) : to_v1 w j = w j := by unfold to_v1; rw [tz_fu_n h2, tz_fu_n h1]
theorem to_v1_7 : to_v1 w 7 = w 7 + 1 := by unfold to_v1; rw [tz_fu_n (by omega), tz_fu_e]
theorem to_v1_8 : to_v1 w 8 = w 8 + tz_i (tz_ado w) := by unfold to_v1; rw [tz_fu_e]
theorem to_v1_top (h0 : 0 ≤ w 3) : tz_top (to_v1 w) = tz_top w := by
  unfold tz_top tz_mo
  rw [to_v1_o (by omega) (by omega), to_v1_o (by omega) (by omega)]
/-- rewards -/
theorem tc_reward (hW : tz_W B w) (hB : B ≤ 1000000000) (hS : tz_S b M w) (ht : tz_top w = 0) (hQ : ∀ M' : ts_M, (∀ a : Nat, a ≠ b + 1 → a ≠ b + 4 → M'.1 a = M.1 a) → M'.2 = M.2 → tz_P1 b M' (to_rew w (w 0).toNat) → Qv M') : wX9_rewardYesVoters b Qv M := by
  have hm := tz_main_of hW (by omega) (by omega)
  have hmp := tz_mp_rng hW hm.1 hm.2
  have hpo := tc_po hW hB hS (by omega) (by omega)
  have hW' := hW
  obtain ⟨e0, _, _, e3, _, _, _, _, _, _, _, e11, ez, _⟩ := hW'
  obtain ⟨s31, s32, s33, s34, s35⟩ := tz_S_3 hS
  obtain ⟨s11, s12, s13, s14⟩ := tz_S_1 hS
  unfold wX9_rewardYesVoters
  rw [tc_mainPosition hS (tz_L_of hB hW), hpo]
  simp only [forall_eq]
  refine tz_ex2 (fun d x1 x2 m => x1 = tz_mp w ∧ 0 ≤ x2 ∧ x2 ≤ w 0 ∧ d = (w 0 - x2).toNat ∧ (∀ a : Nat, a ≠ b + 1 → a ≠ b + 4 → m.1 a = M.1 a) ∧ m.2 = M.2 ∧ tz_P1 b m (to_rew w x2.toNat)) (w 0).toNat ⟨rfl, by omega, by omega, by omega, fun _ _ _ => rfl, rfl, tz_S_1 hS⟩ ?_
  rintro k d x1 x2 m ⟨rfl, i2, i3, i4, i5, i6, i7⟩ hk
  have r0 : to_rew w x2.toNat 0 = w 0 := to_rew_get _ _ (by omega)
  have i7' := i7
  obtain ⟨g1, g2, g3, g4⟩ := i7'
  rw [r0] at g1 g2
  have f3 : m.1 (b + 3) = M.1 (b + 3) := i5 _ (by omega) (by omega)
  have f9 : m.1 (b + 9) = M.1 (b + 9) := i5 _ (by omega) (by omega)
  have f10 : m.1 (b + 10) = M.1 (b + 10) := i5 _ (by omega) (by omega)
  simp only [wX9_rewardYesVoters_L7, wX9_rewardYesVoters_B36, forall_eq, g1]
  rw [tz_n (x := w 0) (by omega) (by omega), tz_n (x := x2) (by omega) (by omega)]
  by_cases c1 : w 0 ≤ x2
  · have c2 : x2 = w 0 := by omega
    subst c2
    rw [tz_y c1]
    exact hQ m i5 i6 i7
  · rw [tz_x c1, tc_saysYes0 (w := w) g1 e0 i2 (by omega) (by rw [f3]; exact (s12 x2 i2 (by omega)).2.1) (e11 x2 i2 (by omega)).2.1 (by rw [f9]; exact s31) e3 (fun k h1 h2 => by rw [f10]; exact s35 k h1 h2) ht hmp, tz_iw, tz_iz]
    have f6 : to_rew w (x2 + 1).toNat = if tz_for w x2 then ts_fu (ts_fu (to_rew w x2.toNat) (11 + 4 * x2 + 2) (tz_a w x2 2 + 2)) 9 (to_rew w x2.toNat 9 + 2) else to_rew w x2.toNat := by
      rw [show (x2 + 1).toNat = x2.toNat + 1 by omega]
      conv => lhs; unfold to_rew
      rw [Int.toNat_of_nonneg i2]
    cases c2 : tz_for w x2
    · rw [tz_y rfl]
      rw [c2] at f6
      refine hk (w 0 - (x2 + 1)).toNat _ _ m (by omega) ⟨rfl, by omega, by omega, rfl, i5, i6, ?_⟩
      rw [f6]; exact i7
    · rw [tz_x (by decide)]
      rw [c2] at f6
      have hin : tz_in 0 x2 (w 0 - 1) = true := tz_in_t.mpr ⟨i2, by omega⟩
      have n8 : 0 ≤ x2 ∧ x2 < ((8 : Nat) : Int) := ⟨i2, by omega⟩
      have n0 : ts_w x2 = x2 := tz_n (by omega) (by omega)
      have q2 : m.1 (b + 4) x2 = tz_a w x2 2 := by rw [(g2 x2 i2 (by omega)).2.2.1]; exact to_rew_at (by omega)
      simp only [wX8_gain, wX8_gain_B28, forall_eq]
      rw [tc_has g1 n0 e0, hin, tz_i1, tz_x (by decide), n0, tz_p n8, tz_p n8]
      refine hk (w 0 - (x2 + 1)).toNat _ _ _ (by omega) ⟨rfl, by omega, by omega, rfl, fun a h1 h2 => ?_, by rw [tz_si2, tz_si2]; exact i6, ?_⟩
      · rw [ts_si_ne h1, ts_si_ne h2]; exact i5 a h1 h2
      · obtain ⟨z, hz⟩ : ∃ z, z = tz_a w x2 2 + 2 := ⟨_, rfl⟩
        rw [f6, if_pos rfl, ← hz]
        have q0 : ∀ j : Int, ¬ (j = 9 ∨ j = 11 + 4 * x2 + 2) → ts_fu (ts_fu (to_rew w x2.toNat) (11 + 4 * x2 + 2) z) 9 (to_rew w x2.toNat 9 + 2) j = to_rew w x2.toNat j := fun j h => by rw [tz_fu_n (by omega), tz_fu_n (by omega)]
        unfold tz_P1
        rw [q0 0 (by omega), q0 10 (by omega), tz_fu_e, r0]
        refine ⟨?_, fun s h1 h2 => ?_, ?_, ?_⟩
        · rw [tz_si_k (by omega), ts_si_ne (by omega)]; exact g1
        · have h3 := g2 s h1 h2
          unfold tz_a at h3 ⊢
          rw [q0 (11 + 4 * s + 0) (by omega), q0 (11 + 4 * s + 1) (by omega), q0 (11 + 4 * s + 3) (by omega)]
          refine ⟨?_, ?_, ?_, ?_⟩
          · rw [ts_si_ne (by omega), ts_si_ne (by omega)]; exact h3.1
          · rw [ts_si_ne (by omega), ts_si_ne (by omega)]; exact h3.2.1
          · rw [ts_si_ne (by omega)]
            by_cases c3 : s = x2
            · subst c3
              rw [tz_si_a, q2, tz_fu_n (by omega), tz_fu_e, hz]
            · rw [tz_si_k c3, q0 (11 + 4 * s + 2) (by omega)]; exact h3.2.2.1
          · rw [ts_si_ne (by omega), ts_si_ne (by omega)]; exact h3.2.2.2
        · rw [tz_si_k (by omega), tz_si_a, ts_si_ne (by omega)]; omega
        · rw [tz_si_k (by omega), ts_si_ne (by omega)]; exact g4
theorem tc_takeTop (h1 : M.1 (b + 9) 1 = w 3) (h0 : 0 < w 3) (h2 : w 3 ≤ 5) (hQ : Qv (ts_si M (b + 9) 1 (w 3 - 1))) : wX10_takeTop b Qv M := by
  simp only [wX10_takeTop, wX10_takeTop_B17, forall_eq, h1]
  rw [tz_n (x := w 3) (by omega) (by omega), tz_x (by omega)]
  exact hQ
theorem tc_floorMod {n : Int} (h1 : 0 ≤ p) (h2 : p ≤ 1000000000) (h3 : 0 < n) (h4 : n ≤ 1000000000) : wJ9_floorMod_7cf53 p n Q M ↔ Q (p % n) M := by
  have e1 : 0 ≤ p % n := Int.emod_nonneg _ (by omega)
  have e2 : p % n < n := Int.emod_lt_of_pos _ h3
  have e3 : 0 ≤ ts_w (ts_xor p n) := by
    have k1 : (ts_I p).toBitVec.msb = false := by
      rw [BitVec.msb_eq_toInt]; exact decide_eq_false (by show ¬ ts_w p < 0; rw [tz_n (by omega) (by omega)]; omega)
    have k2 : (ts_I n).toBitVec.msb = false := by
      rw [BitVec.msb_eq_toInt]; exact decide_eq_false (by show ¬ ts_w n < 0; rw [tz_n (by omega) (by omega)]; omega)
    have k3 : (ts_I p ^^^ ts_I n).toBitVec.msb = false := by rw [Int32.toBitVec_xor, BitVec.msb_xor, k1, k2]; rfl
    have k4 : ts_w (ts_xor p n) = (ts_I p ^^^ ts_I n).toBitVec.toInt := by
      show (Int32.ofInt (ts_I p ^^^ ts_I n).toInt).toInt = _
      rw [Int32.ofInt_toInt]; rfl
    rw [k4]
    rw [BitVec.msb_eq_toInt] at k3
    have := of_decide_eq_false k3
    omega
  simp only [wJ9_floorMod_7cf53, wJ9_floorMod_7cf53_B18, forall_eq]
  rw [tz_n (x := n) (by omega) (by omega), tz_p (by omega), tz_y e3, tz_rem h1 (by omega) h3 (by omega)]
theorem tc_floorMod1 (h1 : -1 ≤ p) (h2 : p ≤ 1000000000) : wJ9_floorMod_7cf53 p 8 Q M ↔ Q (p % 8) M := by
  by_cases c1 : 0 ≤ p
  · exact tc_floorMod c1 h2 (by omega) (by omega)
  · have c2 : p = -1 := by omega
    subst c2
    simp only [wJ9_floorMod_7cf53, wJ9_floorMod_7cf53_B18, forall_eq]
    have k1 : ¬ (0 ≤ ts_w (ts_xor (-1) 8)) := by decide +kernel
    have k2 : ts_rem (-1) 8 = -1 := by decide +kernel
    have k3 : ¬ ts_w 8 = 0 := by decide
    rw [k2, tz_p k3, tz_x k1, tz_x (by decide)]
    exact Iff.rfl
end TZI
