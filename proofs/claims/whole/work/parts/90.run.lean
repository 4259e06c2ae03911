/-! ===== runScript on both sides ===== -/
section TZN2
variable {B n L : Int} {Q : Int → ts_M → Prop} {Qv : ts_M → Prop} {X : String → ts_M → Prop} {M M' M'' : ts_M} {w w2 : Int → Int} {h : Nat → Int → Int} {S : Nat → Prop} {k : Nat}
/-- a whole cell left as it is -/
theorem tz_fr_1 {a : Nat} (hF : tz_fr S M M') (h : ¬ S a) : M'.1 a = M.1 a := (hF.1 a h).1
theorem tm_keeps (hH : tz_HM M n h) (r1 : ∀ k : Int, 0 ≤ k → k < 146 → M.1 168 k = w k) (hQ : ∀ M' : ts_M, tz_fr (fun a => a = 164 ∨ a = 166) M M' → (∀ j : Int, j ≠ 5 → j ≠ 6 → M'.1 164 j = M.1 164 j) → tz_HM M' (if n < 8 then n + 1 else 8) (tz_psh w h) → Qv M') : wX12_keeps Qv M := by
  obtain ⟨c0, cn, cx, ch⟩ := hH
  have g1 : ∀ a : Nat, M.1 a = M.1 a := fun a => rfl
  -- the general end: m is the memory after the oldest is dropped
  have fin : ∀ (m : ts_M) (x t : Int), (∀ a : Nat, a ≠ 164 → m.1 a = M.1 a) → m.2 = M.2 → (∀ j : Int, j ≠ 5 → j ≠ 6 → m.1 164 j = M.1 164 j) → m.1 164 6 = x → m.1 164 5 = t → (0 ≤ x ∧ x < 8) → (0 ≤ t ∧ t < 8) → t + 1 = (if n < 8 then n + 1 else 8) → (∀ i : Nat, (i : Int) < t → (M.1 164 6 + n - 1 - (i : Int)) % 8 = (x + t - 1 - (i : Int)) % 8) → wX12_keeps_B32 Qv m := by
    intro m x t g2 l2 o2 x2 t2 hx ht hn' hi
    refine tm_keeps1 (by omega) (by omega) ?_
    rw [x2, t2]
    generalize e3 : tz_cpo m 168 0 166 (146 * ((x + t) % 8)) 146 = m3
    have g3 : ∀ a : Nat, a ≠ 166 → m3.1 a = m.1 a := fun a h => by rw [← e3, tz_cpo_o h]
    have l3 : m3.2 = m.2 := by rw [← e3]; rfl
    refine hQ (ts_si m3 164 5 (t + 1)) ⟨fun a h1 => ?_, ?_⟩ (fun j h5 h6 => ?_) ⟨?_, ?_, ?_, fun i hi2 k h1 h2 => ?_⟩
    · have h2 : a ≠ 164 := fun h3 => h1 (Or.inl h3)
      have h3 : a ≠ 166 := fun h3 => h1 (Or.inr h3)
      exact ⟨by rw [ts_si_ne h2, g3 _ h3, g2 _ h2], by show m3.2.1 a = _; rw [l3, l2]⟩
    · show m3.2.2 = _; rw [l3, l2]
    · rw [tz_si_k h5, g3 _ (by decide), o2 j h5 h6]
    · rw [tz_si_a, hn']
    · rw [← hn']; omega
    · rw [tz_si_k (by decide), g3 _ (by decide), x2]; exact hx
    · rw [ts_si_ne (by decide : (166 : Nat) ≠ 164), tz_si_k (by decide : (6 : Int) ≠ 5), g3 164 (by decide), x2, ← hn']
      rw [← hn'] at hi2
      unfold tz_psh
      by_cases c1 : i = 0
      · rw [if_pos c1, c1, show x + (t + 1) - 1 - ((0 : Nat) : Int) = x + t by omega, ← e3, tz_cpo_i h1 h2, Int.zero_add, g2 168 (by decide), r1 k h1 h2]
      · rw [if_neg c1, ← e3, tz_cpo_e (by omega), g2 166 (by decide)]
        rw [show x + (t + 1) - 1 - (i : Int) = x + t - 1 - ((i - 1 : Nat) : Int) by omega, ← hi (i - 1) (by omega)]
        exact ch (i - 1) (by split at hn' <;> omega) k h1 h2
  unfold wX12_keeps
  rw [c0, tz_n (x := n) (by omega) (by omega)]
  by_cases c1 : n = 8
  · rw [tz_y2 c1]
    intro m2 e2 m3 e4
    rw [tz_rem (by omega) (by omega) (by omega) (by omega)] at e2
    have t2 : m2.1 164 5 = n := by rw [e2, tz_si_k (by decide), c0]
    rw [t2] at e4
    refine fin m3 ((M.1 164 6 + 1) % 8) 7 (fun a h => by rw [e4, ts_si_ne h, e2, ts_si_ne h]) (by rw [e4, e2]; rfl) (fun j h5 h6 => by rw [e4, tz_si_k h5, e2, tz_si_k h6]) (by rw [e4, tz_si_k (by decide), e2, tz_si_a]) (by rw [e4, tz_si_a, c1]; rfl) (by omega) (by omega) (by rw [c1]; rfl) (fun i hi => by omega)
  · rw [tz_x2 c1]
    refine fin M (M.1 164 6) n (fun a _ => rfl) rfl (fun j _ _ => rfl) rfl c0 cx (by omega) (by rw [if_pos (by omega)]) (fun i hi => rfl)
theorem tc_run (hW : tz_W B w) (hS : tz_S 0 M w) (hH : tz_H B M n h) (hB0 : 0 ≤ B) (hB : B ≤ 800000000) (hT : tz_tx (M.1 160 3) (M.1 161))
    (hb : ∀ (k : Nat) (m : ts_M), tz_bd (tz_cc M) (M.1 160 3) k → tz_fr (fun a => a = 154 ∨ a = 160 ∨ a = 162 ∨ a = 163) M m → (∀ j : Int, j ≠ 8 → m.1 154 j = M.1 154 j) → m.1 154 8 = (tz_cm (tz_cc M) k).2.2.1 → m.1 160 3 = 0 → X "java/lang/IllegalArgumentException" m)
    (hf : ∀ (k j : Nat) (m : ts_M), tz_gd (tz_cc M) (M.1 160 3) k → j < k + 1 → (∀ i : Nat, i < j → tz_nt (tz_cc M) w i = 0) → tz_nt (tz_cc M) w j ≠ 0 → tz_fr (fun a => (14 ≤ a ∧ a < 28) ∨ a = 154 ∨ a = 160 ∨ a = 162 ∨ a = 163) M m → (∀ i : Int, i ≠ 9 → m.1 154 i = M.1 154 i) → m.1 154 9 = (j : Int) → m.1 160 3 = 0 → X "java/lang/IllegalStateException" m)
    (ho : ∀ (k : Nat) (m : ts_M), tz_gd (tz_cc M) (M.1 160 3) k → (∀ i : Nat, i < k + 1 → tz_nt (tz_cc M) w i = 0) → tz_fr (fun a => a < 28 ∨ (42 ≤ a ∧ a < 154) ∨ a = 158 ∨ a = 160 ∨ a = 162 ∨ a = 163) M m → m.1 160 3 = 0 → tz_S 0 m (tz_rw (tz_cc M) w (k + 1)) → tz_H B m (if n < 8 then n + 1 else 8) (tz_psh w h) → Q ((k + 1 : Nat) : Int) m) : wX11_runScript Q X M := by
  have hL := hT.1
  simp only [wX11_runScript, wX7_emptyBuffer, forall_eq]
  refine tc_readAll hT (fun k m hg hm => ?_) (fun k m hg f1 f2 => ?_)
  · have hck := tz_CK_gd hT hg
    have hk11 := ((tz_cm_rng hT hg.1).2.2 hg.2.1).1
    rw [tz_nm, tz_y rfl]
    obtain ⟨g1, g2, g3, g4⟩ := hm
    have hF0 : tz_fr (fun a => a = 160 ∨ a = 162 ∨ a = 163) M (ts_si m 160 3 0) := ⟨fun a ha => ⟨by
        rw [ts_si_ne (by omega)]; funext j; exact g1 a j (by omega) (by omega) (by omega), by show m.2.1 a = _; rw [g2]⟩, by show m.2.2 = _; rw [g2]⟩
    have e4 : (ts_si m 160 3 0).1 160 4 = ((k + 1 : Nat) : Int) := by rw [tz_si_k (by decide)]; exact g3
    have e3 : (ts_si m 160 3 0).1 160 3 = 0 := tz_si_a
    have hS0 : tz_S 0 (ts_si m 160 3 0) w := tz_S_m hW hS (fun a h1 h2 => hF0.1 a (by omega))
    have hH0 : tz_H B (ts_si m 160 3 0) n h := tz_H_c hH (Int.le_refl _) ⟨fun a j hk => by rw [tz_fr_1 hF0 (by unfold tz_kh at hk; omega)], fun a h1 h2 => (hF0.1 a (by omega)).2⟩
    have hh : ∀ j : Nat, j < k + 1 → (ts_si m 160 3 0).1 162 (j : Int) = (tz_cm (tz_cc M) j).2.1 ∧ ∀ i : Nat, i < (tz_cm (tz_cc M) j).2.2.2.length → (ts_si m 160 3 0).1 163 (3 * (j : Int) + (i : Int)) = (tz_cm (tz_cc M) j).2.2.2.getD i 0 := fun j hj => by
      rw [ts_si_ne (by decide), ts_si_ne (by decide)]; exact g4 j hj
    generalize ts_si m 160 3 0 = m0 at *
    refine tc_draft (ch := tz_cc M) (n := k + 1) hW hS0 hB0 hB (by omega) hck e4 hh (fun hz m1 f1 s1 => ?_) (fun j hj hz hz0 m1 f1 => ?_)
    · rw [tz_nm, tz_y rfl]
      have hF1 : tz_fr (fun a => (14 ≤ a ∧ a < 28) ∨ a = 160 ∨ a = 162 ∨ a = 163) M m1 := tz_fr_tr (tz_fr_m hF0 (fun a h => by omega)) (tz_fr_m f1 (fun a h => by omega))
      have hS1 : tz_S 0 m1 w := tz_S_m hW hS0 (fun a h1 h2 => f1.1 a (by omega))
      have hH1 : tz_H B m1 n h := tz_H_c hH0 (Int.le_refl _) ⟨fun a j hk => by rw [tz_fr_1 f1 (by unfold tz_kh at hk; omega)], fun a h1 h2 => (f1.1 a (by omega)).2⟩
      refine tc_remember hW hS1 hH1 (fun m2 f2 hH2 => ?_)
      have hWr := tz_rw_W (ch := tz_cc M) hW hB0 (n := k + 1) (by omega) hck hz
      have s2 : tz_S 14 m2 (tz_rw (tz_cc M) w (k + 1)) := tz_S_m hWr s1 (fun a h1 h2 => f2.1 a (by unfold tz_sh; omega))
      refine tc_copy (b := 0) (b2 := 14) (by omega) hWr s2 (fun m3 f3 s3 => ?_)
      have hF3 : tz_fr (fun a => a < 28 ∨ (42 ≤ a ∧ a < 154) ∨ a = 158 ∨ a = 160 ∨ a = 162 ∨ a = 163) M m3 := tz_fr_tr (tz_fr_m hF1 (fun a h => by omega)) (tz_fr_tr (tz_fr_m f2 (fun a h => by unfold tz_sh at h; omega)) (tz_fr_F f3 (fun a h1 h2 => by omega)))
      have g160 : m3.1 160 = m0.1 160 := by
        rw [(f3.1 160 (by omega)).1, tz_fr_1 f2 (by unfold tz_sh; omega), tz_fr_1 f1 (by omega)]
      rw [g160, e4]
      refine ho k m3 hg hz hF3 (by rw [g160]; exact e3) s3 (tz_H_c hH2 (Int.le_refl _) ⟨fun a j hk => by rw [(f3.1 a (by unfold tz_kh at hk; omega)).1], fun a h1 h2 => (f3.1 a (by omega)).2⟩)
    · rw [tz_n (x := (j : Int)) (by omega) (by omega), tz_x (by omega)]
      have hF1 : tz_fr (fun a => (14 ≤ a ∧ a < 28) ∨ a = 154 ∨ a = 160 ∨ a = 162 ∨ a = 163) M (ts_si m1 154 9 (j : Int)) := tz_fr_si (by omega) (tz_fr_tr (tz_fr_m hF0 (fun a h => by omega)) (tz_fr_m f1 (fun a h => by omega)))
      refine hf k j _ hg hj hz hz0 hF1 (fun i hi => ?_) tz_si_a ?_
      · rw [tz_si_k hi, tz_fr_1 f1 (by omega), tz_fr_1 hF0 (by omega)]
      · rw [ts_si_ne (by decide), tz_fr_1 f1 (by omega)]; exact e3
  · have hcm := tz_cm_rng hT hg.1
    have hps := tz_ps_rng hT hg.1
    have hcm1 : tz_ps (tz_cc M) k ≤ (tz_cm (tz_cc M) k).2.2.1 := hcm.1
    have hcm2 : (tz_cm (tz_cc M) k).2.2.1 ≤ M.1 160 3 := hcm.2.1
    have hps' : 5 * (k : Int) ≤ tz_ps (tz_cc M) k := hps.1
    rw [tz_n (x := (tz_cm (tz_cc M) k).2.2.1) (by omega) (by omega), tz_x (by omega)]
    have hF0 : tz_fr (fun a => a = 160 ∨ a = 162 ∨ a = 163) M (ts_si m 160 3 0) := ⟨fun a ha => ⟨by
        rw [ts_si_ne (by omega)]; funext j; exact f1 a j (by omega) (by omega) (by omega), by show m.2.1 a = _; rw [f2]⟩, by show m.2.2 = _; rw [f2]⟩
    refine hb k _ hg (tz_fr_si (by omega) (tz_fr_m hF0 (fun a h => by omega))) (fun j hj => ?_) tz_si_a ?_
    · rw [tz_si_k hj, tz_fr_1 hF0 (by omega)]
    · rw [ts_si_ne (by decide)]; exact tz_si_a
theorem tm_run (hT : tz_tx (M.1 164 14) (M.1 173)) (hw : M.1 165 = w) (hW : tz_W B w) (hH : tz_HM M n h) (hB0 : 0 ≤ B) (hB : B ≤ 800000000)
    (hb : ∀ (k : Nat) (m : ts_M), tz_bd (tz_cr M) (M.1 164 14) k → tz_fr (fun a => a = 164 ∨ a = 174) M m → (∀ j : Int, ¬ (j = 0 ∨ j = 14 ∨ j = 15 ∨ j = 16 ∨ j = 19) → m.1 164 j = M.1 164 j) → m.1 164 16 = (tz_cm (tz_cr M) k).2.2.1 → m.1 164 14 = 0 → m.1 164 0 = 1 → Q 0 m)
    (hf : ∀ (k j : Nat) (m : ts_M), tz_gd (tz_cr M) (M.1 164 14) k → j < k + 1 → (∀ i : Nat, i < j → tz_nt (tz_cr M) w i = 0) → tz_nt (tz_cr M) w j ≠ 0 → tz_fr (fun a => a = 164 ∨ a = 165 ∨ a = 168 ∨ a = 169 ∨ a = 174) M m → (∀ j : Int, ¬ (j = 0 ∨ j = 14 ∨ j = 15 ∨ j = 17 ∨ j = 19 ∨ j = 20) → m.1 164 j = M.1 164 j) → m.1 164 17 = (j : Int) → m.1 164 14 = 0 → m.1 164 0 = 2 → tz_E w (m.1 165) → Q 0 m)
    (ho : ∀ (k : Nat) (m : ts_M), tz_gd (tz_cr M) (M.1 164 14) k → (∀ i : Nat, i < k + 1 → tz_nt (tz_cr M) w i = 0) → tz_fr (fun a => a = 164 ∨ a = 165 ∨ a = 166 ∨ a = 168 ∨ a = 169 ∨ a = 174) M m → (∀ j : Int, ¬ (j = 0 ∨ j = 5 ∨ j = 6 ∨ j = 14 ∨ j = 15 ∨ j = 19 ∨ j = 20) → m.1 164 j = M.1 164 j) → m.1 164 14 = 0 → m.1 164 0 = 0 → m.1 165 = tz_rw (tz_cr M) w (k + 1) → tz_HM m (if n < 8 then n + 1 else 8) (tz_psh w h) → Q ((k + 1 : Nat) : Int) m) : wX12_runScript Q M := by
  have hL := hT.1
  simp only [wX12_runScript, wX12_fails, forall_eq]
  have q14 : (ts_si M 164 0 0).1 164 14 = M.1 164 14 := tz_si_k (by decide)
  have q173 : (ts_si M 164 0 0).1 173 = M.1 173 := ts_si_ne (by decide)
  have qcr : tz_cr (ts_si M 164 0 0) = tz_cr M := by unfold tz_cr; rw [q14, q173]
  have q0 : (ts_si M 164 0 0).1 164 0 = 0 := tz_si_a
  have qk : ∀ j : Int, j ≠ 0 → (ts_si M 164 0 0).1 164 j = M.1 164 j := fun j hj => tz_si_k hj
  have qF : tz_fr (fun a => a = 164) M (ts_si M 164 0 0) := tz_fr_si rfl tz_fr_rfl
  generalize ts_si M 164 0 0 = M1 at *
  have hT1 : tz_R0 M1 := by unfold tz_R0; rw [q14, q173]; exact hT
  refine tm_readsAll hT1 (fun k m hg hm => ?_) (fun k m hg hm h15 => ?_)
  · rw [qcr, q14] at hg
    have hk11 := ((tz_cm_rng hT hg.1).2.2 hg.2.1).1
    rw [tz_n1, tz_x2 (by decide)]
    refine tm_copies ?_
    have hFm : tz_fr (fun a => a = 164 ∨ a = 174) M m := tz_fr_tr (tz_fr_m qF (fun a h => by omega)) ⟨fun a ha => ⟨by funext j; exact hm.1 a j (by omega) (by omega), by rw [hm.2]⟩, by rw [hm.2]⟩
    have qm : ∀ j : Int, ¬ (j = 0 ∨ j = 15 ∨ j = 19) → m.1 164 j = M.1 164 j := fun j hj => by rw [hm.1 164 j (by omega) (by decide)]; exact qk j (by omega)
    have q0m : m.1 164 0 = 0 := by rw [hm.1 164 0 (by omega) (by decide)]; exact q0
    have e165 : m.1 165 = w := by rw [tz_fr_1 hFm (by omega)]; exact hw
    generalize em : tz_cpo m 165 0 168 0 146 = m2
    have g2 : ∀ a : Nat, a ≠ 168 → m2.1 a = m.1 a := fun a h => by rw [← em, tz_cpo_o h]
    have l2 : m2.2 = m.2 := by rw [← em]; rfl
    have r2 : ∀ i : Int, 0 ≤ i → i < 146 → m2.1 168 i = w i := fun i h1 h2 => by
      have := tz_cpo_i (M := m) (a1 := 165) (o1 := 0) (a2 := 168) (o2 := 0) h1 h2
      rw [Int.zero_add] at this
      rw [← em, this, e165]
    have hF2 : tz_fr (fun a => a = 164 ∨ a = 168 ∨ a = 174) M m2 := tz_fr_tr (tz_fr_m hFm (fun a h => by omega)) ⟨fun a ha => ⟨g2 a (by omega), by rw [l2]⟩, by rw [l2]⟩
    have p14 : m2.1 164 14 = M.1 164 14 := by rw [g2 164 (by decide)]; exact qm 14 (by omega)
    have p173 : m2.1 173 = M.1 173 := by rw [tz_fr_1 hF2 (by omega)]
    have pcr : tz_cr m2 = tz_cr M := by unfold tz_cr; rw [p14, p173]
    have hT2 : tz_R0 m2 := by unfold tz_R0; rw [p14, p173]; exact hT
    refine tm_doesAll (n := k) (w := w) hT2 (by rw [g2 165 (by decide)]; exact e165) hW hB0 hB (by rw [pcr, p14]; exact hg) (fun hz m3 h3 row3 h20 => ?_) (fun j hj hz hz0 m3 h3 h20 => ?_)
    · rw [pcr] at hz row3
      have o3 : ∀ j : Int, ¬ (j = 0 ∨ j = 15 ∨ j = 19 ∨ j = 20) → m3.1 164 j = M.1 164 j := fun j hj => by
        rw [h3.1 164 j (by omega) (by decide) (by decide) (by decide), g2 164 (by decide)]; exact qm j (by omega)
      have o0 : m3.1 164 0 = 0 := by rw [h3.1 164 0 (by omega) (by decide) (by decide) (by decide), g2 164 (by decide)]; exact q0m
      have hF3 : tz_fr (fun a => a = 164 ∨ a = 165 ∨ a = 168 ∨ a = 169 ∨ a = 174) M m3 := tz_fr_tr (tz_fr_m hF2 (fun a h => by omega)) ⟨fun a ha => ⟨by funext j; exact h3.1 a j (by omega) (by omega) (by omega) (by omega), by rw [h3.2]⟩, by rw [h3.2]⟩
      rw [tz_n1, tz_x (by decide)]
      have hH3 : tz_HM (ts_si m3 164 14 0) n h := tz_HM_c hH ⟨fun a j hk => by
        unfold tz_kh at hk
        by_cases c1 : a = 164
        · subst c1
          rw [tz_si_k (by omega)]; exact o3 j (by omega)
        · rw [ts_si_ne c1, tz_fr_1 hF3 (by omega)], fun a h1 h2 => (hF3.1 a (by omega)).2⟩
      refine tm_keeps (w := w) hH3 (fun i h1 h2 => ?_) (fun m4 f4 o4 hH4 => ?_)
      · rw [ts_si_ne (by decide), h3.1 168 i (by omega) (by decide) (by decide) (by decide)]; exact r2 i h1 h2
      · have hF4 : tz_fr (fun a => a = 164 ∨ a = 165 ∨ a = 166 ∨ a = 168 ∨ a = 169 ∨ a = 174) M m4 := tz_fr_tr (tz_fr_si (by omega) (tz_fr_m hF3 (fun a h => by omega))) (tz_fr_m f4 (fun a h => by omega))
        have e20 : m4.1 164 20 = ((k + 1 : Nat) : Int) := by rw [o4 20 (by decide) (by decide), tz_si_k (by decide)]; exact h20
        rw [e20]
        refine ho k m4 hg hz hF4 (fun j hj => ?_) ?_ ?_ ?_ hH4
        · rw [o4 j (by omega) (by omega), tz_si_k (by omega)]; exact o3 j (by omega)
        · rw [o4 14 (by decide) (by decide), tz_si_a]
        · rw [o4 0 (by decide) (by decide), tz_si_k (by decide)]; exact o0
        · rw [tz_fr_1 f4 (by omega), ts_si_ne (by decide)]; exact row3
    · rw [pcr] at hz hz0
      have o3 : ∀ j : Int, ¬ (j = 0 ∨ j = 15 ∨ j = 19 ∨ j = 20) → m3.1 164 j = M.1 164 j := fun j hj => by
        rw [h3.1 164 j (by omega) (by decide) (by decide) (by decide), g2 164 (by decide)]; exact qm j (by omega)
      have hF3 : tz_fr (fun a => a = 164 ∨ a = 165 ∨ a = 168 ∨ a = 169 ∨ a = 174) M m3 := tz_fr_tr (tz_fr_m hF2 (fun a h => by omega)) ⟨fun a ha => ⟨by funext j; exact h3.1 a j (by omega) (by omega) (by omega) (by omega), by rw [h3.2]⟩, by rw [h3.2]⟩
      have r3 : ∀ i : Int, 0 ≤ i → i < 146 → m3.1 168 i = w i := fun i h1 h2 => by rw [h3.1 168 i (by omega) (by decide) (by decide) (by decide)]; exact r2 i h1 h2
      rw [tz_n0, tz_y rfl]
      refine tm_goesBack ?_
      generalize em4 : tz_cpo (ts_si m3 164 14 0) 168 0 165 0 146 = m4
      have g4 : ∀ a : Nat, a ≠ 165 → m4.1 a = (ts_si m3 164 14 0).1 a := fun a h => by rw [← em4, tz_cpo_o h]
      have l4 : m4.2 = m3.2 := by rw [← em4]; rfl
      have e20 : m4.1 164 20 = (j : Int) := by rw [g4 164 (by decide), tz_si_k (by decide)]; exact h20
      rw [e20]
      refine hf k j _ hg hj hz hz0 (tz_fr_si (by omega) (tz_fr_si (by omega) (tz_fr_tr hF3 ⟨fun a ha => ⟨by rw [g4 a (by omega), ts_si_ne (by omega)], by rw [l4]⟩, by rw [l4]⟩))) (fun i hi => ?_) ?_ ?_ tz_si_a (fun i h1 h2 => ?_)
      · rw [tz_si_k (by omega), tz_si_k (by omega), g4 164 (by decide), tz_si_k (by omega)]; exact o3 i (by omega)
      · rw [tz_si_k (by decide), tz_si_a]
      · rw [tz_si_k (by decide), tz_si_k (by decide), g4 164 (by decide), tz_si_a]
      · rw [ts_si_ne (by decide), ts_si_ne (by decide), ← em4]
        have := tz_cpo_i (M := ts_si m3 164 14 0) (a1 := 168) (o1 := 0) (a2 := 165) (o2 := 0) h1 h2
        rw [Int.zero_add] at this
        rw [this, ts_si_ne (by decide)]
        exact r3 i h1 h2
  · rw [qcr, q14] at hg
    rw [qcr] at h15
    rw [tz_n0, tz_y2 (by decide), h15]
    have hFm : tz_fr (fun a => a = 164 ∨ a = 174) M m := tz_fr_tr (tz_fr_m qF (fun a h => by omega)) ⟨fun a ha => ⟨by funext j; exact hm.1 a j (by omega) (by omega), by rw [hm.2]⟩, by rw [hm.2]⟩
    refine hb k _ hg (tz_fr_si (by omega) (tz_fr_si (by omega) (tz_fr_si (by omega) hFm))) (fun j hj => ?_) ?_ ?_ tz_si_a
    · rw [tz_si_k (by omega), tz_si_k (by omega), tz_si_k (by omega), hm.1 164 j (by omega) (by decide)]; exact qk j (by omega)
    · rw [tz_si_k (by decide), tz_si_k (by decide), tz_si_a]
    · rw [tz_si_k (by decide), tz_si_a]
end TZN2
