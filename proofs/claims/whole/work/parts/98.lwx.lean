/-! ===== the law's rounds: runScript ===== -/
section TLX
variable {B B' n y5 o v p : Int} {L : Nat} {L0 : Int} {k : Nat} {xs : Nat → Int32} {k28 : Int → ts_M → Prop} {Q Qc : Int → ts_M → Prop} {M M' m : ts_M} {w w' ch ch2 : Int → Int} {h : Nat → Int → Int}
theorem tz_cm_nn : 0 ≤ (tz_cm ch k).2.2.1 := by
  have h1 := tz_ps_0 (ch := ch) k
  have h2 := tz_rd_ge (ch := ch) (i := tz_ps ch k) 12 0 (Int.le_refl (tz_ps ch k))
  unfold tz_cm
  omega
theorem tz_pre_cg (hc : ∀ j : Int, 0 ≤ j → ch j = ch2 j) (hg : tz_pre ch2 k) : tz_pre ch k := fun j hj => by
  rw [(tz_cm_cg hc tz_ps_0 j).2, hc (tz_cm ch2 j).2.2.1 tz_cm_nn]
  exact hg j hj
theorem tz_gd_cg (hc : ∀ j : Int, 0 ≤ j → ch j = ch2 j) (hg : tz_gd ch2 L0 k) : tz_gd ch L0 k := by
  refine ⟨tz_pre_cg hc hg.1, ?_⟩
  rw [(tz_cm_cg hc tz_ps_0 k).2]
  exact hg.2
theorem tz_bd_cg (hc : ∀ j : Int, 0 ≤ j → ch j = ch2 j) (hg : tz_bd ch2 L0 k) : tz_bd ch L0 k := by
  refine ⟨tz_pre_cg hc hg.1, ?_⟩
  rw [(tz_cm_cg hc tz_ps_0 k).2, hc (tz_cm ch2 k).2.2.1 tz_cm_nn]
  exact hg.2
theorem tz_rw_cg (hc : ∀ j : Int, 0 ≤ j → ch j = ch2 j) : ∀ k : Nat, tz_rw ch w k = tz_rw ch2 w k
  | 0 => rfl
  | k + 1 => by
    show tz_do (tz_rw ch w k) (tz_cm ch k).2.1 ((tz_cm ch k).2.2.2.getD 0 0) ((tz_cm ch k).2.2.2.getD 1 0) ((tz_cm ch k).2.2.2.getD 2 0) = _
    rw [tz_rw_cg hc k, (tz_cm_cg hc tz_ps_0 k).2]
    rfl
theorem tz_nt_cg (hc : ∀ j : Int, 0 ≤ j → ch j = ch2 j) : tz_nt ch w k = tz_nt ch2 w k := by
  unfold tz_nt
  rw [tz_rw_cg hc k, (tz_cm_cg hc tz_ps_0 k).2]
/-- what the class leaves of a script -/
def tz_RX (B : Int) (M : ts_M) (n : Int) (h : Nat → Int → Int) (m : ts_M) (o : Int) : Prop :=
  (o = 1 ∧ ∃ k : Nat, tz_bd (tz_cc M) (M.1 160 3) k ∧ tz_fr (fun a => a = 154 ∨ a = 160 ∨ a = 162 ∨ a = 163) M m ∧ (∀ j : Int, j ≠ 8 → m.1 154 j = M.1 154 j) ∧ m.1 154 8 = (tz_cm (tz_cc M) k).2.2.1 ∧ m.1 160 3 = 0) ∨
  (o = 2 ∧ ∃ k j : Nat, tz_gd (tz_cc M) (M.1 160 3) k ∧ j < k + 1 ∧ (∀ i : Nat, i < j → tz_nt (tz_cc M) (M.1 165) i = 0) ∧ tz_nt (tz_cc M) (M.1 165) j ≠ 0 ∧ tz_fr (fun a => (14 ≤ a ∧ a < 28) ∨ a = 154 ∨ a = 160 ∨ a = 162 ∨ a = 163) M m ∧ (∀ i : Int, i ≠ 9 → m.1 154 i = M.1 154 i) ∧ m.1 154 9 = (j : Int) ∧ m.1 160 3 = 0) ∨
  (o = 0 ∧ ∃ (k : Nat) (m0 : ts_M), tz_gd (tz_cc M) (M.1 160 3) k ∧ (∀ i : Nat, i < k + 1 → tz_nt (tz_cc M) (M.1 165) i = 0) ∧ tz_fr (fun a => a < 28 ∨ (42 ≤ a ∧ a < 154) ∨ a = 158 ∨ a = 160 ∨ a = 162 ∨ a = 163) M m0 ∧ m0.1 160 3 = 0 ∧ tz_S 0 m0 (tz_rw (tz_cc M) (M.1 165) (k + 1)) ∧ tz_H B m0 (if n < 8 then n + 1 else 8) (tz_psh (M.1 165) h) ∧ m = ts_sl m0 175 0 (ts_L ((k + 1 : Nat) : Int)))
theorem tz_TXT_0 (h1 : m.1 160 3 = 0) (h2 : m.1 164 14 = 0) : tz_TXT m := by
  unfold tz_TXT
  rw [h1, h2]
  exact ⟨by decide, rfl, fun j h3 h4 => absurd h3 (by omega)⟩
theorem tl_c54 (hJ : tz_J B M) (hB0 : 0 ≤ B) (hB : B ≤ 800000000) (hk : tz_K B y5 k28) : wL_law_B2720 L xs k28 Q y5 M := by
  have hJ2 := hJ
  obtain ⟨⟨hW, hS⟩, ⟨n, h, hH, hHM⟩, hR1, hR2, hR3, hR4⟩ := hJ2
  have hR3' := hR3
  obtain ⟨t1, t2, t3⟩ := hR3'
  have hT : tz_tx (M.1 160 3) (M.1 161) := ⟨t1, fun j h1 h2 => (t3 j h1 h2).2⟩
  have hTx : ∀ m : ts_M, m.1 164 14 = M.1 160 3 → m.1 173 = M.1 173 → tz_tx (m.1 164 14) (m.1 173) := fun m e1 e2 => by
    rw [e1, e2]
    exact ⟨t1, fun j h1 h2 => by rw [(t3 j h1 h2).1]; exact (t3 j h1 h2).2⟩
  have hcr : ∀ m : ts_M, m.1 164 14 = M.1 160 3 → m.1 173 = M.1 173 → ∀ j : Int, 0 ≤ j → tz_cc M j = tz_cr m j := fun m e1 e2 j hj => by
    unfold tz_cc tz_cr tz_nx
    rw [e1, e2]
    by_cases c : M.1 160 3 ≤ j
    · rw [if_pos c, if_pos c]
    · rw [if_neg c, if_neg c]; exact (t3 j hj (by omega)).1.symm
  unfold wL_law_B2720
  exact tl_I (F := fun Qc m => wL_runScript Qc m) (G := fun Q m => wX12_runScript Q m) (R := tz_RX B M n h) hk
    (fun Qc hQ => by
      unfold wL_runScript
      refine tc_run hW hS hH hB0 hB hT (fun k m hb f s8 e8 e3 => ?_) (fun k j m hg hj hz hz0 f s9 e9 e3 => ?_) (fun k m hg hz f e3 s hh => ?_)
      · exact Or.inl ⟨rfl, hQ m 1 (Or.inl ⟨rfl, k, hb, f, s8, e8, e3⟩)⟩
      · exact Or.inr ⟨rfl, hQ m 2 (Or.inr (Or.inl ⟨rfl, k, j, hg, hj, hz, hz0, f, s9, e9, e3⟩))⟩
      · intro M5 e5
        exact hQ M5 0 (Or.inr (Or.inr ⟨rfl, k, m, hg, hz, f, e3, s, hh, e5⟩)))
    (fun Q m o hR hQ => by
      have g0 : ∀ a : Nat, ¬ (a < 28 ∨ (42 ≤ a ∧ a < 154) ∨ a = 154 ∨ a = 158 ∨ a = 160 ∨ a = 162 ∨ a = 163) → m.1 a = M.1 a ∧ (a ≠ 175 → m.2.1 a = M.2.1 a) := fun a ha => by
        rcases hR with ⟨_, k, _, f, _⟩ | ⟨_, k, j, _, _, _, _, f, _⟩ | ⟨_, k, m0, _, _, f, _, _, _, em⟩
        · exact ⟨tz_fr_1 f (by omega), fun _ => (f.1 a (by omega)).2⟩
        · exact ⟨tz_fr_1 f (by omega), fun _ => (f.1 a (by omega)).2⟩
        · rw [em]
          have f1 := f.1 a (by omega)
          exact ⟨f1.1, fun h5 => by rw [ts_sl_ne h5]; exact f1.2⟩
      have q164 : m.1 164 = M.1 164 := (g0 164 (by omega)).1
      have q165 : m.1 165 = M.1 165 := (g0 165 (by omega)).1
      have q173 : m.1 173 = M.1 173 := (g0 173 (by omega)).1
      have q14 : m.1 164 14 = M.1 160 3 := by rw [q164]; exact t2
      have hc := hcr m q14 q173
      have hHM2 : tz_HM m n h := by
        unfold tz_HM
        rw [q164, (g0 166 (by omega)).1]
        exact hHM
      refine tm_run (hTx m q14 q173) q165 hW hHM2 hB0 hB (fun k2 m2 hb2 f2 o2 e16 e14 e0 => ?_) (fun k2 j2 m2 hg2 hj2 hz2 hz20 f2 o2 e17 e14 e0 hE => ?_) (fun k2 m2 hg2 hz2 f2 o2 e14 e0 e165 hM2 => ?_)
      · have hb3 := tz_bd_cg hc hb2
        rw [q14] at hb3
        have u1 : ∀ a : Nat, a ≠ 164 → a ≠ 174 → m2.1 a = m.1 a := fun a h4 h5 => tz_fr_1 f2 (by omega)
        have u2 : ∀ a : Nat, a ≠ 164 → a ≠ 174 → m2.2.1 a = m.2.1 a := fun a h4 h5 => (f2.1 a (by omega)).2
        rcases hR with ⟨ho, k, hb, f, s8, e8, e3⟩ | ⟨_, k, j, hg, _⟩ | ⟨_, k, m0, hg, _⟩
        · have ek : k = k2 := tz_end_eq hT (Or.inr hb) (Or.inr hb3)
          subst ek
          have v1 : ∀ a : Nat, ¬ (a = 154 ∨ a = 160 ∨ a = 162 ∨ a = 163) → a ≠ 164 → a ≠ 174 → m2.1 a = M.1 a := fun a h4 h5 h6 => by rw [u1 a h5 h6, tz_fr_1 f h4]
          have v2 : ∀ a : Nat, ¬ (a = 154 ∨ a = 160 ∨ a = 162 ∨ a = 163) → a ≠ 164 → a ≠ 174 → m2.2.1 a = M.2.1 a := fun a h4 h5 h6 => by rw [u2 a h5 h6, (f.1 a h4).2]
          have w164 : ∀ j : Int, ¬ (j = 0 ∨ j = 14 ∨ j = 15 ∨ j = 16 ∨ j = 19) → m2.1 164 j = M.1 164 j := fun j hj => by rw [o2 j hj, q164]
          have w154 : ∀ j : Int, j ≠ 8 → m2.1 154 j = M.1 154 j := fun j hj => by rw [u1 154 (by decide) (by decide), s8 j hj]
          have hcm := tz_cm_rng hT hb.1
          have hcn : 0 ≤ (tz_cm (tz_cc M) k).2.2.1 := tz_cm_nn
          have hcL : (tz_cm (tz_cc M) k).2.2.1 ≤ M.1 160 3 := hcm.2.1
          refine hQ 0 m2 ⟨tz_MN_c ⟨hW, hS⟩ (by omega) ⟨fun a j hk => ?_, by rw [v2 11 (by decide) (by decide) (by decide)]⟩, ⟨n, h, tz_H_c hH (by omega) ⟨fun a j hk => ?_, fun a h4 h5 => v2 a (by omega) (by omega) (by omega)⟩, tz_HM_c hHM ⟨fun a j hk => ?_, fun a h4 h5 => v2 a (by omega) (by omega) (by omega)⟩⟩, tz_SAV_m hR1 (by omega) (w154 7 (by decide)) (w164 7 (by decide)) (v1 167 (by decide) (by decide) (by decide)) (fun a h4 h5 => ⟨v1 a (by omega) (by omega) (by omega), v2 a (by omega) (by omega) (by omega)⟩), ?_, tz_TXT_0 (by rw [u1 160 (by decide) (by decide), e3]) e14, tz_OUT_m hR4 (v1 177 (by decide) (by decide) (by decide)) (w164 12 (by decide)) (v1 172 (by decide) (by decide) (by decide)) (v1 178 (by decide) (by decide) (by decide))⟩ (by rw [e0, ho]) (fun hz => absurd hz (by rw [ho]; exact tz_nz1))
          · unfold tz_km at hk
            rw [v1 a (by omega) (by omega) (by omega)]
          · unfold tz_kh at hk
            by_cases c4 : a = 164
            · subst c4; exact w164 j (by omega)
            · rw [v1 a (by omega) c4 (by omega)]
          · unfold tz_kh at hk
            by_cases c4 : a = 164
            · subst c4; exact w164 j (by omega)
            · rw [v1 a (by omega) c4 (by omega)]
          · obtain ⟨r1, r2, r3, r4⟩ := hR2
            refine ⟨?_, ?_, ?_, ?_⟩
            · rw [e16, u1 154 (by decide) (by decide), e8, (tz_cm_cg hc tz_ps_0 k).2]
            · rw [u1 154 (by decide) (by decide), e8]; omega
            · rw [w164 17 (by decide), w154 9 (by decide)]; exact r3
            · rw [w154 9 (by decide)]; exact r4
        · exact (tz_end_no (tz_end_eq hT (Or.inl hg) (Or.inr hb3) ▸ hg) hb3).elim
        · exact (tz_end_no (tz_end_eq hT (Or.inl hg) (Or.inr hb3) ▸ hg) hb3).elim
      · have hg3 := tz_gd_cg hc hg2
        rw [q14] at hg3
        rcases hR with ⟨_, k, hb, _⟩ | ⟨ho, k, j, hg, hj, hz, hz0, f, s9, e9, e3⟩ | ⟨_, k, m0, hg, hz, _⟩
        · exact (tz_end_no hg3 (tz_end_eq hT (Or.inr hb) (Or.inl hg3) ▸ hb)).elim
        · have ek : k = k2 := tz_end_eq hT (Or.inl hg) (Or.inl hg3)
          subst ek
          have ej : j = j2 := by
            rcases Nat.lt_trichotomy j j2 with c | c | c
            · exact absurd (by rw [tz_nt_cg hc]; exact hz2 j c) hz0
            · exact c
            · exact absurd (by rw [← tz_nt_cg hc]; exact hz j2 c) hz20
          subst ej
          have hk11 : k ≤ 11 := ((tz_cm_rng hT hg.1).2.2 hg.2.1).1
          have u1 : ∀ a : Nat, ¬ (a = 164 ∨ a = 165 ∨ a = 168 ∨ a = 169 ∨ a = 174) → m2.1 a = m.1 a := fun a h4 => tz_fr_1 f2 h4
          have u2 : ∀ a : Nat, ¬ (a = 164 ∨ a = 165 ∨ a = 168 ∨ a = 169 ∨ a = 174) → m2.2.1 a = m.2.1 a := fun a h4 => (f2.1 a h4).2
          have v1 : ∀ a : Nat, ¬ (((14 ≤ a ∧ a < 28) ∨ a = 154 ∨ a = 160 ∨ a = 162 ∨ a = 163) ∨ a = 164 ∨ a = 165 ∨ a = 168 ∨ a = 169 ∨ a = 174) → m2.1 a = M.1 a := fun a h4 => by rw [u1 a (by omega), tz_fr_1 f (by omega)]
          have v2 : ∀ a : Nat, ¬ (((14 ≤ a ∧ a < 28) ∨ a = 154 ∨ a = 160 ∨ a = 162 ∨ a = 163) ∨ a = 164 ∨ a = 165 ∨ a = 168 ∨ a = 169 ∨ a = 174) → m2.2.1 a = M.2.1 a := fun a h4 => by rw [u2 a (by omega), (f.1 a (by omega)).2]
          have w164 : ∀ j : Int, ¬ (j = 0 ∨ j = 14 ∨ j = 15 ∨ j = 17 ∨ j = 19 ∨ j = 20) → m2.1 164 j = M.1 164 j := fun j hj => by rw [o2 j hj, q164]
          have w154 : ∀ j : Int, j ≠ 9 → m2.1 154 j = M.1 154 j := fun j hj => by rw [u1 154 (by decide), s9 j hj]
          refine hQ 0 m2 ⟨⟨tz_W_mono (tz_W_c hW hE) (by omega), tz_S_c hW hS (fun c hc => v1 (0 + c) (by omega)) (by rw [v2 (0 + 11) (by decide)]) hE⟩, ⟨n, h, tz_H_c hH (by omega) ⟨fun a j hk => ?_, fun a h4 h5 => v2 a (by omega)⟩, tz_HM_c hHM ⟨fun a j hk => ?_, fun a h4 h5 => v2 a (by omega)⟩⟩, tz_SAV_m hR1 (by omega) (w154 7 (by decide)) (w164 7 (by decide)) (v1 167 (by decide)) (fun a h4 h5 => ⟨v1 a (by omega), v2 a (by omega)⟩), ?_, tz_TXT_0 (by rw [u1 160 (by decide), e3]) e14, tz_OUT_m hR4 (v1 177 (by decide)) (w164 12 (by decide)) (v1 172 (by decide)) (v1 178 (by decide))⟩ (by rw [e0, ho]) (fun hz => absurd hz (by rw [ho]; exact tz_nz2))
          · unfold tz_kh at hk
            by_cases c4 : a = 164
            · subst c4; exact w164 j (by omega)
            · rw [v1 a (by omega)]
          · unfold tz_kh at hk
            by_cases c4 : a = 164
            · subst c4; exact w164 j (by omega)
            · rw [v1 a (by omega)]
          · obtain ⟨r1, r2, r3, r4⟩ := hR2
            refine ⟨?_, ?_, ?_, ?_⟩
            · rw [w164 16 (by decide), w154 8 (by decide)]; exact r1
            · rw [w154 8 (by decide)]; exact r2
            · rw [e17, u1 154 (by decide), e9]
            · rw [u1 154 (by decide), e9]; omega
        · have ek : k = k2 := tz_end_eq hT (Or.inl hg) (Or.inl hg3)
          subst ek
          exact absurd (by rw [← tz_nt_cg hc]; exact hz j2 hj2) hz20
      · have hg3 := tz_gd_cg hc hg2
        rw [q14] at hg3
        rcases hR with ⟨_, k, hb, _⟩ | ⟨_, k, j, hg, hj, hz, hz0, _⟩ | ⟨ho, k, m0, hg, hz, f, e3, s, hh, em⟩
        · exact (tz_end_no hg3 (tz_end_eq hT (Or.inr hb) (Or.inl hg3) ▸ hb)).elim
        · have ek : k = k2 := tz_end_eq hT (Or.inl hg) (Or.inl hg3)
          subst ek
          exact absurd (by rw [tz_nt_cg hc]; exact hz2 j hj) hz0
        · have ek : k = k2 := tz_end_eq hT (Or.inl hg) (Or.inl hg3)
          subst ek
          have hk11 : k ≤ 11 := ((tz_cm_rng hT hg.1).2.2 hg.2.1).1
          have hWr := tz_rw_W (ch := tz_cc M) hW hB0 (n := k + 1) (by omega) (tz_CK_gd hT hg) hz
          have row : m2.1 165 = tz_rw (tz_cc M) (M.1 165) (k + 1) := by rw [e165, tz_rw_cg hc]
          have u1 : ∀ a : Nat, ¬ (a = 164 ∨ a = 165 ∨ a = 166 ∨ a = 168 ∨ a = 169 ∨ a = 174) → m2.1 a = m0.1 a := fun a h4 => by rw [tz_fr_1 f2 h4, em]; rfl
          have u2 : ∀ a : Nat, ¬ (a = 164 ∨ a = 165 ∨ a = 166 ∨ a = 168 ∨ a = 169 ∨ a = 174) → a ≠ 175 → m2.2.1 a = m0.2.1 a := fun a h4 h5 => by rw [(f2.1 a h4).2, em, ts_sl_ne h5]
          have v1 : ∀ a : Nat, ¬ ((a < 28 ∨ (42 ≤ a ∧ a < 154) ∨ a = 158 ∨ a = 160 ∨ a = 162 ∨ a = 163) ∨ a = 164 ∨ a = 165 ∨ a = 166 ∨ a = 168 ∨ a = 169 ∨ a = 174) → m2.1 a = M.1 a := fun a h4 => by rw [u1 a (by omega), tz_fr_1 f (by omega)]
          have v2 : ∀ a : Nat, ¬ ((a < 28 ∨ (42 ≤ a ∧ a < 154) ∨ a = 158 ∨ a = 160 ∨ a = 162 ∨ a = 163) ∨ a = 164 ∨ a = 165 ∨ a = 166 ∨ a = 168 ∨ a = 169 ∨ a = 174) → a ≠ 175 → m2.2.1 a = M.2.1 a := fun a h4 h5 => by rw [u2 a (by omega) h5, (f.1 a (by omega)).2]
          have w164 : ∀ j : Int, ¬ (j = 0 ∨ j = 5 ∨ j = 6 ∨ j = 14 ∨ j = 15 ∨ j = 19 ∨ j = 20) → m2.1 164 j = M.1 164 j := fun j hj => by rw [o2 j hj, q164]
          have w154 : m2.1 154 = M.1 154 := v1 154 (by decide)
          have ez : m2.2.1 175 0 = ts_L ((k + 1 : Nat) : Int) := by rw [(f2.1 175 (by decide)).2, em]; exact tz_sl_a
          refine hQ _ m2 ⟨⟨by rw [row]; exact tz_W_mono hWr (by omega), by rw [row]; exact tz_S_m hWr s (fun a h4 h5 => ⟨u1 a (by omega), u2 a (by omega) (by omega)⟩)⟩, ⟨_, _, tz_H_m hh (by omega) (fun a h4 h5 => ⟨u1 a (by omega), u2 a (by omega) (by omega)⟩) (u1 158 (by decide)), hM2⟩, tz_SAV_m hR1 (by omega) (by rw [w154]) (w164 7 (by decide)) (v1 167 (by decide)) (fun a h4 h5 => ⟨v1 a (by omega), v2 a (by omega) (by omega)⟩), tz_ERR_m hR2 (w164 16 (by decide)) (by rw [w154]) (w164 17 (by decide)) (by rw [w154]), tz_TXT_0 (by rw [u1 160 (by decide), e3]) e14, tz_OUT_m hR4 (v1 177 (by decide)) (w164 12 (by decide)) (v1 172 (by decide)) (v1 178 (by decide))⟩ (by rw [e0, ho]) (fun _ => ez))
end TLX
