/-! ===== a script is run: the class's draft, the reference's doing ===== -/
/-- the row before the j-th command; why it is refused -/
noncomputable def tz_rw (ch : Int → Int) (w : Int → Int) : Nat → Int → Int
  | 0 => w
  | j + 1 => tz_do (tz_rw ch w j) (tz_cm ch j).2.1 ((tz_cm ch j).2.2.2.getD 0 0) ((tz_cm ch j).2.2.2.getD 1 0) ((tz_cm ch j).2.2.2.getD 2 0)
noncomputable def tz_nt (ch : Int → Int) (w : Int → Int) (j : Nat) : Int := tz_not (tz_rw ch w j) (tz_cm ch j).2.1 ((tz_cm ch j).2.2.2.getD 0 0) ((tz_cm ch j).2.2.2.getD 1 0) ((tz_cm ch j).2.2.2.getD 2 0)
/-- commands as they should be -/
def tz_CK (ch : Int → Int) (n : Nat) : Prop := ∀ j : Nat, j < n → (0 ≤ (tz_cm ch j).2.1 ∧ (tz_cm ch j).2.1 ≤ 11) ∧ (tz_cm ch j).2.2.2.length = tz_na (tz_fm (tz_cm ch j).2.1.toNat) ∧ ∀ v ∈ (tz_cm ch j).2.2.2, -99 ≤ v ∧ v ≤ 99
section TZM
variable {L B i c x s : Int} {t ch ch2 : Int → Int} {F G A : List Int} {a b k j n f q : Nat} {Q : Int → ts_M → Prop} {Qv : ts_M → Prop} {M m M0 : ts_M} {w : Int → Int}
theorem tz_gD_rng (h : ∀ v ∈ A, -99 ≤ v ∧ v ≤ 99) : -99 ≤ A.getD k 0 ∧ A.getD k 0 ≤ 99 := by
  rw [List.getD_eq_getElem?_getD]
  by_cases c1 : k < A.length
  · rw [List.getElem?_eq_getElem c1]
    exact h _ (List.getElem_mem c1)
  · rw [List.getElem?_eq_none (by omega)]
    show -99 ≤ (0 : Int) ∧ (0 : Int) ≤ 99
    omega
theorem tz_CK_gd (h : tz_tx L t) (hg : tz_gd (tz_nx L t) L n) : tz_CK (tz_nx L t) (n + 1) := fun j hj => by
  have hp : tz_pre (tz_nx L t) j := fun i hi => hg.1 i (by omega)
  have h1 := tz_cm_rng h hp
  have ho : (tz_cm (tz_nx L t) j).1 = true := by
    by_cases c1 : j = n
    · rw [c1]; exact hg.2.1
    · exact (hg.1 j (by omega)).1
  have h2 := h1.2.2 ho
  exact ⟨h2.2.1, h2.2.2.1, h2.2.2.2⟩
theorem tz_rw_W (hW : tz_W B w) (hB0 : 0 ≤ B) : ∀ {n : Nat}, B + 9 * (n : Int) ≤ 900000000 → tz_CK ch n → (∀ j : Nat, j < n → tz_nt ch w j = 0) → tz_W (B + 9 * (n : Int)) (tz_rw ch w n)
  | 0, _, _, _ => by
    rw [show B + 9 * ((0 : Nat) : Int) = B by omega]; exact hW
  | n + 1, hB, hc, hz => by
    have h1 := tz_rw_W hW hB0 (n := n) (by omega) (fun j hj => hc j (by omega)) (fun j hj => hz j (by omega))
    have h2 := tz_keep h1 (by omega) (by omega) (hc n (by omega)).1 (hz n (by omega))
    rw [show B + 9 * ((n + 1 : Nat) : Int) = B + 9 * (n : Int) + 9 by omega]
    exact h2
/-- the class -/
theorem tc_argAt (h0 : k < 3) (h1 : j < 12) (hQ : Q (m.1 163 (3 * (j : Int) + (k : Int))) m) : wX7_argumentAt (j : Int) (k : Int) Q m := by
  simp only [wX7_argumentAt, wX7_argumentAt_B28, wX7_argumentAt_B29, forall_eq]
  rw [tz_n (x := (j : Int) * 3 + (k : Int)) (by omega) (by omega), tz_n (x := ((36 : Nat) : Int)) (by omega) (by omega), tz_x (by omega), tz_x (by omega), tz_p ⟨by omega, by omega⟩, show (j : Int) * 3 + (k : Int) = 3 * (j : Int) + (k : Int) by omega]
  exact hQ
theorem tc_draft (hW : tz_W B w) (hS : tz_S 0 M w) (hB0 : 0 ≤ B) (hB : B ≤ 800000000) (hn : n ≤ 12) (hck : tz_CK ch n) (h4 : M.1 160 4 = (n : Int)) (hh : ∀ j : Nat, j < n → M.1 162 (j : Int) = (tz_cm ch j).2.1 ∧ ∀ k : Nat, k < (tz_cm ch j).2.2.2.length → M.1 163 (3 * (j : Int) + (k : Int)) = (tz_cm ch j).2.2.2.getD k 0) (hG : (∀ j : Nat, j < n → tz_nt ch w j = 0) → ∀ M' : ts_M, tz_fr (fun a => 14 ≤ a ∧ a < 28) M M' → tz_S 14 M' (tz_rw ch w n) → Q (-1) M') (hE : ∀ j : Nat, j < n → (∀ i : Nat, i < j → tz_nt ch w i = 0) → tz_nt ch w j ≠ 0 → ∀ M' : ts_M, tz_fr (fun a => 14 ≤ a ∧ a < 28) M M' → Q (j : Int) M') : wX11_firstFailureOnDraft Q M := by
  unfold wX11_firstFailureOnDraft
  refine tc_copy (b := 14) (b2 := 0) (by omega) hW hS (fun m1 f1 s1 => ?_)
  simp only [forall_eq]
  refine tz_ex1 (fun d x1 m => ∃ j : Nat, x1 = (j : Int) ∧ j + d = n ∧ (∀ i : Nat, i < j → tz_nt ch w i = 0) ∧ tz_fr (fun a => 14 ≤ a ∧ a < 28) M m ∧ tz_S 14 m (tz_rw ch w j)) n ⟨0, rfl, by omega, fun i hi => absurd hi (Nat.not_lt_zero i), tz_fr_F f1 (fun a h1 h2 => ⟨h1, by omega⟩), s1⟩ ?_
  rintro k0 d x1 m ⟨j, rfl, hd, hz, hF, hSm⟩ hk
  have g : ∀ a : Nat, a = 160 ∨ a = 162 ∨ a = 163 → m.1 a = M.1 a := fun a ha => (hF.1 a (by omega)).1
  simp only [wX11_firstFailureOnDraft_L13, forall_eq]
  rw [g 160 (by omega), h4, tz_n (x := (n : Int)) (by omega) (by omega), tz_n (x := (j : Int)) (by omega) (by omega)]
  by_cases c1 : j = n
  · rw [tz_y (by omega)]
    rw [c1] at hSm hz
    exact hG hz m hF hSm
  · have hj : j < n := by omega
    obtain ⟨hcr, hlen, hval⟩ := hck j hj
    obtain ⟨hh1, hh2⟩ := hh j hj
    have hWj := tz_rw_W hW hB0 (n := j) (by omega) (fun i hi => hck i (by omega)) (fun i hi => hz i hi)
    have a1 := tz_gD_rng (k := 0) hval
    have a2 := tz_gD_rng (k := 1) hval
    have a3 := tz_gD_rng (k := 2) hval
    rw [tz_x (by omega)]
    have hca : ∀ {Q2 : Int → ts_M → Prop}, Q2 (tz_cm ch j).2.1 m → wX7_commandAt (j : Int) Q2 m := fun {Q2} hq => by
      simp only [wX7_commandAt, wX7_commandAt_B21, wX7_commandAt_B22]
      rw [g 160 (by omega), h4, g 162 (by omega), tz_n (x := (n : Int)) (by omega) (by omega), tz_n (x := (j : Int)) (by omega) (by omega), tz_x (by omega), tz_x (by omega), tz_p ⟨by omega, by omega⟩, hh1]
      exact hq
    refine hca ?_
    refine tc_argAt (k := 0) (by decide) (by omega) ?_
    refine tc_argAt (k := 1) (by decide) (by omega) ?_
    refine tc_argAt (k := 2) (by decide) (by omega) ?_
    have hag : tz_ag (tz_cm ch j).2.1 (m.1 163 (3 * (j : Int) + ((0 : Nat) : Int))) (m.1 163 (3 * (j : Int) + ((1 : Nat) : Int))) (m.1 163 (3 * (j : Int) + ((2 : Nat) : Int))) ((tz_cm ch j).2.2.2.getD 0 0) ((tz_cm ch j).2.2.2.getD 1 0) ((tz_cm ch j).2.2.2.getD 2 0) := by
      rw [g 163 (by omega)]
      exact ⟨fun h => hh2 0 (by omega), fun h => hh2 1 (by omega), fun h => hh2 2 (by omega)⟩
    rw [tc_refAg hWj hSm (by omega) hcr hag (tz_n (by omega) (by omega)) (tz_n (by omega) (by omega)) (tz_n (by omega) (by omega))]
    have hr := tz_not_rng (w := tz_rw ch w j) (c := (tz_cm ch j).2.1) (p1 := (tz_cm ch j).2.2.2.getD 0 0) (p2 := (tz_cm ch j).2.2.2.getD 1 0) (p3 := (tz_cm ch j).2.2.2.getD 2 0)
    refine ⟨⟨hr.1, by omega⟩, fun hz0 => ?_, fun hz0 => hE j hj hz hz0 m hF⟩
    obtain ⟨g1, g2, g3⟩ := tz_ag_eq (w := tz_rw ch w j) hcr hag
    refine tc_perform hWj hSm (by omega) hcr (by rw [g1]; exact hz0) (fun m2 f2 s2 => ?_)
    rw [g2] at s2
    refine hk (d - 1) _ _ (by omega) ⟨j + 1, by omega, by omega, fun i hi => ?_, tz_fr_tr hF (tz_fr_F f2 (fun a h1 h2 => ⟨h1, by omega⟩)), s2⟩
    by_cases c2 : i = j
    · rw [c2]; exact hz0
    · exact hz i (by omega)
/-- the reference -/
def tz_HR2 (M0 : ts_M) (m : ts_M) : Prop := (∀ (a : Nat) (j : Int), ¬ (a = 164 ∧ (j = 15 ∨ j = 19 ∨ j = 20)) → a ≠ 165 → a ≠ 169 → a ≠ 174 → m.1 a j = M0.1 a j) ∧ m.2 = M0.2
theorem tm_doesAll (hT : tz_R0 M0) (hw : M0.1 165 = w) (hW : tz_W B w) (hB0 : 0 ≤ B) (hB : B ≤ 800000000) (hg : tz_gd (tz_cr M0) (M0.1 164 14) n) (hG : (∀ j : Nat, j < n + 1 → tz_nt (tz_cr M0) w j = 0) → ∀ m : ts_M, tz_HR2 M0 m → m.1 165 = tz_rw (tz_cr M0) w (n + 1) → m.1 164 20 = ((n + 1 : Nat) : Int) → Q 1 m) (hE : ∀ j : Nat, j < n + 1 → (∀ i : Nat, i < j → tz_nt (tz_cr M0) w i = 0) → tz_nt (tz_cr M0) w j ≠ 0 → ∀ m : ts_M, tz_HR2 M0 m → m.1 164 20 = (j : Int) → Q 0 m) : wX12_doesAll Q M0 := by
  have hL := hT.1
  have hn := ((tz_cm_rng hT hg.1).2.2 hg.2.1).1
  have hck := tz_CK_gd hT hg
  have hck' : tz_CK (tz_cr M0) (n + 1) := hck
  simp only [wX12_doesAll, forall_eq]
  refine tz_ex1 (fun d x1 m => ∃ j : Nat, tz_HR2 M0 m ∧ (∀ i : Nat, i < j → tz_nt (tz_cr M0) w i = 0) ∧ m.1 165 = tz_rw (tz_cr M0) w j ∧ m.1 164 20 = (j : Int) ∧ ((x1 = 1 ∧ j + d = n + 2 ∧ j < n + 1 ∧ m.1 164 15 = tz_ps (tz_cr M0) j) ∨ (x1 = 0 ∧ j = n + 1))) (n + 2) ⟨0, ⟨fun a j g1 g2 g3 g4 => ?_, rfl⟩, fun i hi => absurd hi (Nat.not_lt_zero i), ?_, ?_, Or.inl ⟨rfl, by omega, by omega, tz_si_a⟩⟩ ?_
  · rw [show (ts_si (ts_si M0 164 20 0) 164 15 0).1 a j = (ts_si M0 164 20 0).1 a j from if_neg (by omega), show (ts_si M0 164 20 0).1 a j = M0.1 a j from if_neg (by omega)]
  · rw [ts_si_ne (by decide), ts_si_ne (by decide)]; exact hw
  · rw [tz_si_k (by decide), tz_si_a]; rfl
  · rintro k0 d x1 m ⟨j, hm, hz, hrow, h20, hx⟩ hk
    have et : m.1 173 = M0.1 173 := by funext j; exact hm.1 173 j (by omega) (by decide) (by decide) (by decide)
    have eL : m.1 164 14 = M0.1 164 14 := hm.1 164 14 (by omega) (by decide) (by decide) (by decide)
    have ecc : tz_cr m = tz_cr M0 := by unfold tz_cr; rw [et, eL]
    simp only [wX12_doesAll_L12, forall_eq]
    rcases hx with ⟨rfl, hd, hj, hi⟩ | ⟨rfl, hj⟩
    · have hpj : tz_pre (tz_cr M0) j := fun i hi => hg.1 i (by omega)
      have hps := tz_ps_rng hT hpj
      have hcm := tz_cm_rng hT hpj
      have hps' : 5 * (j : Int) ≤ tz_ps (tz_cr M0) j ∧ tz_ps (tz_cr M0) j ≤ M0.1 164 14 := hps
      have hcm1 : tz_ps (tz_cr M0) j ≤ (tz_cm (tz_cr M0) j).2.2.1 := hcm.1
      have hcm2 : (tz_cm (tz_cr M0) j).2.2.1 ≤ M0.1 164 14 := hcm.2.1
      have ho : (tz_cm (tz_cr M0) j).1 = true := by
        by_cases c1 : j = n
        · rw [c1]; exact hg.2.1
        · exact (hg.1 j (by omega)).1
      have hcme : tz_rd (tz_cr M0) (tz_ps (tz_cr M0) j) 12 0 (tz_ps (tz_cr M0) j) = tz_cm (tz_cr M0) j := rfl
      have hPm : tz_R0 m := by unfold tz_R0; rw [et, eL]; exact hT
      obtain ⟨hcr, hlen, hval⟩ := hck' j (by omega)
      have hWj := tz_rw_W hW hB0 (n := j) (by omega) (fun i hi => hck' i (by omega)) (fun i hi => hz i hi)
      have a1 := tz_gD_rng (k := 0) hval
      have a2 := tz_gD_rng (k := 1) hval
      have a3 := tz_gD_rng (k := 2) hval
      rw [tz_n1, tz_x (by decide)]
      refine tm_readsCommand (M0 := m) (i := tz_ps (tz_cr M0) j) hPm hi (by omega) (by rw [eL]; exact hps.2) (fun _ m1 hm1 => ?_) (fun hno => ?_)
      · rw [ecc, hcme] at hm1
        have row1 : m1.1 165 = tz_rw (tz_cr M0) w j := by
          rw [← hrow]; funext k; exact hm1.1 165 k (by omega) (by decide)
        have hag : tz_ag (tz_cm (tz_cr M0) j).2.1 (m1.1 174 0) (m1.1 174 1) (m1.1 174 2) ((tz_cm (tz_cr M0) j).2.2.2.getD 0 0) ((tz_cm (tz_cr M0) j).2.2.2.getD 1 0) ((tz_cm (tz_cr M0) j).2.2.2.getD 2 0) := ⟨fun h => hm1.2.2.2.2 0 (by omega), fun h => hm1.2.2.2.2 1 (by omega), fun h => hm1.2.2.2.2 2 (by omega)⟩
        have hm1R : tz_HR2 M0 m1 := ⟨fun a k g1 g2 g3 g4 => (hm1.1 a k (by omega) g4).trans (hm.1 a k g1 g2 g3 g4), hm1.2.1.trans hm.2⟩
        have h201 : m1.1 164 20 = (j : Int) := (hm1.1 164 20 (by omega) (by decide)).trans h20
        have hW1 : tz_W (B + 9 * (j : Int)) (m1.1 165) := by rw [row1]; exact hWj
        refine tm_notNow (B := B + 9 * (j : Int)) hW1 (by omega) hcr hm1.2.2.2.1 hag (tz_n (by omega) (by omega)) (tz_n (by omega) (by omega)) (tz_n (by omega) (by omega)) (fun s hs => ?_)
        rw [hs.2]
        rw [row1] at hs
        by_cases c2 : s = 0
        · rw [tz_y c2]
          have hz0 := hs.1.mp c2
          refine tm_doesNow (B := B + 9 * (j : Int)) hW1 (by omega) hcr hm1.2.2.2.1 hag (by rw [row1]; exact hz0) (fun r m2 f2 row2 => ?_)
          rw [row1] at row2
          have e20 : m2.1 164 20 = (j : Int) := by rw [f2.1 164 (by decide) (by decide)]; exact h201
          have hm3 : tz_HR2 M0 (ts_si m2 164 20 ((j : Int) + 1)) := ⟨fun a k g1 g2 g3 g4 => by
            rw [show (ts_si m2 164 20 ((j : Int) + 1)).1 a k = m2.1 a k from if_neg (by omega), f2.1 a g2 g3]
            exact hm1R.1 a k g1 g2 g3 g4, f2.2.trans hm1R.2⟩
          have e15 : (ts_si m2 164 20 ((j : Int) + 1)).1 164 15 = (tz_cm (tz_cr M0) j).2.2.1 := by
            rw [tz_si_k (by decide), f2.1 164 (by decide) (by decide)]; exact hm1.2.2.1
          have row3 : (ts_si m2 164 20 ((j : Int) + 1)).1 165 = tz_rw (tz_cr M0) w (j + 1) := by
            rw [ts_si_ne (by decide)]; exact row2
          have e203 : (ts_si m2 164 20 ((j : Int) + 1)).1 164 20 = ((j + 1 : Nat) : Int) := by rw [tz_si_a]; omega
          rw [e20]
          generalize ts_si m2 164 20 ((j : Int) + 1) = m3 at *
          have et3 : m3.1 173 = M0.1 173 := by funext j; exact hm3.1 173 j (by omega) (by decide) (by decide) (by decide)
          have eL3 : m3.1 164 14 = M0.1 164 14 := hm3.1 164 14 (by omega) (by decide) (by decide) (by decide)
          have ecc3 : tz_cr m3 = tz_cr M0 := by unfold tz_cr; rw [et3, eL3]
          have hP3 : tz_R0 m3 := by unfold tz_R0; rw [et3, eL3]; exact hT
          have hz1 : ∀ i : Nat, i < j + 1 → tz_nt (tz_cr M0) w i = 0 := fun i hi => by
            by_cases c3 : i = j
            · rw [c3]; exact hz0
            · exact hz i (by omega)
          refine tm_reads (M0 := m3) (i := (tz_cm (tz_cr M0) j).2.2.1) (s := m3.1 164 19) (A := []) hP3 ⟨fun _ _ _ _ => rfl, rfl, e15, rfl, fun k hk => absurd hk (Nat.not_lt_zero k)⟩ (by omega) (by rw [eL3]; exact hcm2) (by decide) (fun hc m4 hm4 _ => ?_) (fun hc => ?_)
          · rw [ecc3] at hc
            have hjn : j ≠ n := fun h => by
              rw [h, hg.2.2] at hc
              unfold tz_cr tz_nx at hc
              rw [if_pos (Int.le_refl _)] at hc
              cases hc
            refine hk (d - 1) _ _ (by omega) ⟨j + 1, ⟨fun a k g1 g2 g3 g4 => (hm4.1 a k (by omega) g4).trans (hm3.1 a k g1 g2 g3 g4), hm4.2.1.trans hm3.2⟩, hz1, ?_, (hm4.1 164 20 (by omega) (by decide)).trans e203, Or.inl ⟨rfl, by omega, by omega, hm4.2.2.1⟩⟩
            rw [← row3]; funext k; exact hm4.1 165 k (by omega) (by decide)
          · rw [ecc3] at hc
            have hjn : j = n := by
              by_cases c3 : j = n
              · exact c3
              · exact absurd (hg.1 j (by omega)).2 hc
            exact hk (d - 1) _ _ (by omega) ⟨j + 1, hm3, hz1, row3, e203, Or.inr ⟨rfl, by omega⟩⟩
        · rw [tz_x c2]
          exact hE j hj hz (fun h => c2 (hs.1.mpr h)) m1 hm1R h201
      · rw [ecc, hcme, ho] at hno; cases hno
    · rw [tz_n0, tz_y rfl]
      rw [hj] at hz hrow h20
      exact hG hz m hm hrow h20
end TZM
