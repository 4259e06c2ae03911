/-! ===== the law's rounds: canMove, means, positions, undo, the snapshot, typing ===== -/
/-- the rank of a motion's letter -/
def tz_kx (p : Int) : Int := if p = 109 then 0 else if p = 97 then 1 else if p = 112 then 2 else if p = 99 then 3 else if p = 106 then 4 else -1
/-- whether such a motion can be made -/
def tz_cv (w : Int → Int) (r : Int) : Bool := tz_adm w r && (decide (r ≠ 0) || decide (0 < w 1))
section TLU
variable {B B' n y5 o v o0 v0 p p1 p2 x r q k : Int} {L : Nat} {xs : Nat → Int32} {k28 : Int → ts_M → Prop} {Q Qc : Int → ts_M → Prop} {Qv : ts_M → Prop} {X : String → ts_M → Prop} {M M' m : ts_M} {w w' : Int → Int} {h : Nat → Int → Int}
theorem tz_i2c_rng : 0 ≤ ts_i2c x ∧ ts_i2c x < 65536 := by
  unfold ts_i2c
  have h : ((ts_I x).toUInt32 % 65536).toNat < 65536 := by
    rw [UInt32.toNat_mod]
    exact Nat.mod_lt _ (by decide)
  generalize (ts_I x).toUInt32 % 65536 = u at *
  have e : u.toInt32.toInt = (u.toNat : Int) := by
    show u.toBitVec.toInt = (u.toBitVec.toNat : Int)
    have h2 : u.toBitVec.toNat < 65536 := h
    rw [BitVec.toInt_eq_toNat_cond, if_pos (by omega)]
  omega
theorem tz_i2c_w : ts_w (ts_i2c x) = ts_i2c x := by
  have h := tz_i2c_rng (x := x)
  exact tz_n (by omega) (by omega)
theorem tz_cvl {P : Int → Prop} (hP : P (tz_i (tz_cv w r))) : (tz_i (tz_adm w r) = 0 → P 0) ∧ (¬ (tz_i (tz_adm w r) = 0) → ((¬ (r = 0) → P 1) ∧ (r = 0 → ((w 1 ≤ 0 → P 0) ∧ (¬ (w 1 ≤ 0) → P 1))))) := by
  unfold tz_cv at hP
  refine ⟨fun h => ?_, fun h => ?_⟩
  · rw [tz_iz] at h
    rw [h, Bool.false_and, tz_i0] at hP
    exact hP
  · have ha : tz_adm w r = true := by
      rw [tz_iz] at h
      cases e : tz_adm w r
      · exact absurd e h
      · rfl
    rw [ha, Bool.true_and] at hP
    refine ⟨fun h1 => ?_, fun h1 => ⟨fun h2 => ?_, fun h2 => ?_⟩⟩
    · rw [decide_eq_true h1, Bool.true_or, tz_i1] at hP; exact hP
    · rw [decide_eq_false (fun hn => hn h1), decide_eq_false (by omega : ¬ 0 < w 1), Bool.or_false, tz_i0] at hP; exact hP
    · rw [decide_eq_true (by omega : 0 < w 1), Bool.or_true, tz_i1] at hP; exact hP
theorem tz_i2b_256 : ∀ a : Fin 256, ts_w (ts_i2b (a.val : Int)) = if a.val < 128 then (a.val : Int) else (a.val : Int) - 256 := by decide +kernel
theorem tz_bt12 : ∀ a : Fin 5, ts_w (ts_bt 12 (a.val : Int)) = tz_lt (a.val : Int) := by decide +kernel
theorem tz_kx_lt : ∀ a : Fin 5, tz_kx (tz_lt (a.val : Int)) = (a.val : Int) := by decide +kernel
theorem tz_kx_rng : -1 ≤ tz_kx p ∧ tz_kx p ≤ 4 := by
  unfold tz_kx
  repeat' split
  all_goals omega
theorem tz_kx_no (hn : ∀ i : Int, 0 ≤ i → i < 5 → tz_lt i ≠ p) : tz_kx p = -1 := by
  have h0 := hn 0 (by decide) (by decide)
  have h1 := hn 1 (by decide) (by decide)
  have h2 := hn 2 (by decide) (by decide)
  have h3 := hn 3 (by decide) (by decide)
  have h4 := hn 4 (by decide) (by decide)
  have g0 : (109 : Int) ≠ p := h0
  have g1 : (97 : Int) ≠ p := h1
  have g2 : (112 : Int) ≠ p := h2
  have g3 : (99 : Int) ≠ p := h3
  have g4 : (106 : Int) ≠ p := h4
  unfold tz_kx
  rw [if_neg (fun h => g0 h.symm), if_neg (fun h => g1 h.symm), if_neg (fun h => g2 h.symm), if_neg (fun h => g3 h.symm), if_neg (fun h => g4 h.symm)]
theorem tz_kx_at {i : Int} (h1 : 0 ≤ i) (h2 : i < 5) (h3 : tz_lt i = p) : tz_kx p = i := by
  obtain ⟨a, ea⟩ : ∃ a : Nat, i = (a : Int) := ⟨_, (Int.toNat_of_nonneg h1).symm⟩
  rw [← h3, ea]
  exact tz_kx_lt ⟨a, by omega⟩
theorem tc_indexOf (hp : 0 ≤ p ∧ p < 65536) (hQ : Q (tz_kx p) M) : wJ0_indexOf_0f7a4 12 p Q M := by
  have hw : ts_w p = p := tz_n (by omega) (by omega)
  have hno : 255 < p → tz_kx p = -1 := fun h => tz_kx_no (fun i h1 h2 he => by
    have := tz_lt_rng (r := i)
    omega)
  simp only [wJ0_indexOf_0f7a4, wJ0_indexOf_7cf53, wJ0_indexOf_7cf53_B36, wJ0_isLatin1_aae02, wJ0_isLatin1_aae02_B17, wJ0_isLatin1_aae02_B18]
  refine ⟨fun h => absurd h (by decide), fun _ => ⟨fun h => absurd trivial h, fun _ => ⟨Or.inr tz_n1, fun h => absurd h tz_nz1, fun _ => ?_⟩⟩⟩
  refine (tc_sLen (q := 12) (n := 5) (by decide) (by decide)).mpr ?_
  unfold wJ1_indexOf_4cfef
  have tail : 0 ≤ p ∧ p ≤ 255 → wJ9_max_7cf53 0 0 (fun r4 M3 => (∀ x5 : Int, x5 = r4 → (wJ9_min_7cf53 ((5 : Nat) : Int) (ts_ln 12) (fun r7 M6 => (∀ x8 : Int, x8 = r7 → ((ts_w x5 < ts_w x8 → (wJ1_indexOfChar_4cfef 12 p x5 x8 (fun r10 M9 => Q r10 M9) M6)) ∧ (¬ (ts_w x5 < ts_w x8) → Q (-1) M6)))) M3))) M := by
    intro hp2
    simp only [wJ9_max_7cf53, wJ9_max_7cf53_B10]
    refine ⟨fun h => ?_, fun h => ?_⟩ <;>
    · intro x5 e5
      rw [e5]
      refine (tc_min (by decide) (by decide)).mpr ?_
      intro x8 e8
      rw [e8, show (if ts_ln 12 < ((5 : Nat) : Int) then ts_ln 12 else ((5 : Nat) : Int)) = 5 by decide]
      refine ⟨fun _ => ?_, fun h => absurd (by decide) h⟩
      simp only [wJ1_indexOfChar_4cfef, forall_eq]
      refine tz_ex3 (fun d x1 x2 x3 m => x1 = 5 ∧ x2 = ts_i2b p ∧ 0 ≤ x3 ∧ x3 ≤ 5 ∧ m = M ∧ d = (5 - x3).toNat ∧ ∀ i : Int, 0 ≤ i → i < x3 → tz_lt i ≠ p) 5 ⟨rfl, rfl, by omega, by omega, rfl, rfl, fun i h1 h2 => absurd h1 (by omega)⟩ ?_
      rintro k0 d x1 x2 x3 m ⟨rfl, rfl, i1, i2, rfl, rfl, i3⟩ hk0
      simp only [wJ1_indexOfChar_4cfef_L7, forall_eq]
      rw [tz_n5, tz_n (x := x3) (by omega) (by omega)]
      by_cases c1 : 5 ≤ x3
      · rw [tz_y c1, ← tz_kx_no (p := p) (fun i h1 h2 => i3 i h1 (by omega))]; exact hQ
      · rw [tz_x c1]
        obtain ⟨a, ea⟩ : ∃ a : Nat, x3 = (a : Int) := ⟨_, (Int.toNat_of_nonneg i1).symm⟩
        have eb : ts_w (ts_bt 12 x3) = tz_lt x3 := by rw [ea]; exact tz_bt12 ⟨a, by omega⟩
        obtain ⟨u, eu⟩ : ∃ u : Nat, p = (u : Int) := ⟨_, (Int.toNat_of_nonneg hp2.1).symm⟩
        have ec : ts_w (ts_i2b p) = if u < 128 then (u : Int) else (u : Int) - 256 := by rw [eu]; exact tz_i2b_256 ⟨u, by omega⟩
        have hl := tz_lt_rng (r := x3)
        rw [eb, ec]
        refine ⟨⟨i1, by rw [show ts_ln 12 = 5 by decide]; omega⟩, fun c2 => ?_, fun c2 => ?_⟩
        · refine hk0 _ _ _ _ _ (by omega) ⟨rfl, rfl, by omega, by omega, rfl, rfl, fun i h1 h2 => ?_⟩
          by_cases c3 : i = x3
          · rw [c3]
            intro hx
            rw [hx] at hl c2
            rw [if_pos (by omega)] at c2
            exact c2 eu
          · exact i3 i h1 (by omega)
        · have hx : tz_lt x3 = p := by
            split at c2 <;> omega
          rw [← tz_kx_at i1 (by omega) hx]; exact hQ
  unfold wJ1_canEncode_9a6ad wJ1_canEncode_9a6ad_B15 wJ1_canEncode_9a6ad_B16
  rw [hw]
  refine ⟨fun h => absurd h (by omega), fun _ => ⟨fun h => ⟨Or.inl tz_n0, fun h2 => absurd tz_n0 h2, fun _ => ?_⟩, fun h => ⟨Or.inr tz_n1, fun _ => tail (by omega), fun h2 => absurd h2 tz_nz1⟩⟩⟩
  rw [← hno h]; exact hQ
theorem tm_canMove (hW : tz_W B (m.1 165)) (hp : ts_w p = p) (hy : 0 ≤ tz_kx p → Q (tz_i (tz_cv (m.1 165) (tz_kx p))) (ts_si m 164 0 0)) (hn : tz_kx p = -1 → Q 0 (ts_si (ts_si m 164 0 0) 164 0 1)) : wX12_canMove p Q m := by
  have e1 := (tz_W_2 hW).1
  simp only [wX12_canMove, forall_eq]
  have r1 : (ts_si m 164 0 0).1 165 = m.1 165 := ts_si_ne (by decide)
  generalize em : ts_si m 164 0 0 = M1 at *
  refine tz_ex2 (fun d x1 x2 m' => x1 = p ∧ 0 ≤ x2 ∧ x2 ≤ 5 ∧ m' = M1 ∧ d = (5 - x2).toNat ∧ ∀ i : Int, 0 ≤ i → i < x2 → tz_lt i ≠ p) 5 ⟨rfl, by omega, by omega, rfl, rfl, fun i h1 h2 => absurd h1 (by omega)⟩ ?_
  rintro k0 d x1 x2 m' ⟨rfl, i1, i2, rfl, rfl, i3⟩ hk0
  simp only [wX12_canMove_L7, forall_eq]
  rw [tz_n (x := x2) (by omega) (by omega), hp]
  by_cases c1 : 4 < x2
  · rw [tz_y c1]
    unfold wX12_fails
    intro M3 e3
    rw [e3]
    exact tl_f0 (Q := Q) (hn (tz_kx_no (fun i h1 h2 => i3 i h1 (by omega))))
  · rw [tz_x c1]
    have hl := tz_lt_rng (r := x2)
    refine tm_signOf (r := x2) (tz_n (by omega) (by omega)) ?_
    rw [tz_n (x := tz_lt x2) (by omega) (by omega)]
    refine ⟨fun c2 => ?_, fun c2 => ?_⟩
    · refine hk0 _ _ _ _ (by omega) ⟨rfl, by omega, by omega, rfl, rfl, fun i h1 h2 => ?_⟩
      by_cases c3 : i = x2
      · rw [c3]; exact c2
      · exact i3 i h1 (by omega)
    · have hx : tz_kx x1 = x2 := tz_kx_at i1 (by omega) c2
      have hy2 := hy (by omega)
      rw [hx] at hy2
      refine (tm_canMake (B := B) (by rw [r1]; exact hW) i1 (by omega)).mpr ?_
      rw [r1, tz_iw, tz_n (x := m.1 165 1) (by omega) (by omega)]
      have hv := tz_cvl (P := fun z => (ts_w z = 0 ∨ ts_w z = 1) ∧ Q z m') (w := m.1 165) (r := x2) ⟨tz_bw01 (of_eq_true tz_i01), hy2⟩
      exact hv
theorem tl_c25 (hJ : tz_J B M) (hB : B ≤ 800000000) (b1 : (0 ≤ ts_w (y5 + 1) ∧ ts_w (y5 + 1) < (L : Int))) (hk : tz_K B y5 k28) : wL_law_B1523 L xs k28 Q y5 M := by
  have hW := hJ.1.1
  have hS := hJ.1.2
  have hP := tz_S_2 hS
  have e1 := (tz_W_2 hW).1
  have e6 : M.1 6 2 = M.1 165 1 := hP.1
  have h1 : ts_w (ts_i2c (ts_xs xs (ts_w (y5 + 1)))) = ts_i2c (ts_xs xs (ts_w (y5 + 1))) := tz_i2c_w
  have h2 := tz_i2c_rng (x := ts_xs xs (ts_w (y5 + 1)))
  unfold wL_law_B1523
  generalize ts_i2c (ts_xs xs (ts_w (y5 + 1))) = p1 at h1 h2 ⊢
  have hr := tz_kx_rng (p := p1)
  by_cases c : 0 ≤ tz_kx p1
  · exact tl_RB (F := fun Qc m => (0 ≤ ts_w (y5 + 1) ∧ ts_w (y5 + 1) < (L : Int)) ∧ wL_canMove p1 Qc m) (G := fun Q m => (0 ≤ ts_w (y5 + 1) ∧ ts_w (y5 + 1) < (L : Int)) ∧ wX12_canMove p1 Q m) (o0 := 0) (v0 := tz_i (tz_cv (M.1 165) (tz_kx p1))) hJ hk (of_eq_true tz_i01)
      (fun Qc hQ => ⟨b1, by
        unfold wL_canMove wX11_canMove
        refine tc_indexOf h2 ?_
        intro x3 e3
        rw [e3, tz_n (x := tz_kx p1) (by omega) (by omega)]
        refine ⟨fun _ => ?_, fun h => absurd c h⟩
        refine (tc_admits hW hS c hr.2).mpr ?_
        rw [tz_iw, e6, tz_n (x := M.1 165 1) (by omega) (by omega)]
        have hv := tz_cvl (P := fun z => (ts_w z = 0 ∨ ts_w z = 1) ∧ ((ts_w z = 0 → wL_canMove_B15 Qc 0 0 M) ∧ (¬ (ts_w z = 0) → wL_canMove_B15 Qc 1 0 M))) (w := M.1 165) (r := tz_kx p1) ⟨tz_bw01 (of_eq_true tz_i01), tz_B_okb hQ (of_eq_true tz_i01) tz_Q_rfl⟩
        exact hv⟩)
      (fun Q m hq hQ => ⟨b1, tm_canMove (tz_Q_W hW hq) h1 (fun _ => by rw [tz_Q_row hq]; exact tz_A_ok hQ) (fun h => absurd c (by omega))⟩)
  · exact tl_RB (F := fun Qc m => (0 ≤ ts_w (y5 + 1) ∧ ts_w (y5 + 1) < (L : Int)) ∧ wL_canMove p1 Qc m) (G := fun Q m => (0 ≤ ts_w (y5 + 1) ∧ ts_w (y5 + 1) < (L : Int)) ∧ wX12_canMove p1 Q m) (o0 := 1) (v0 := 0) hJ hk (Or.inl rfl)
      (fun Qc hQ => ⟨b1, by
        unfold wL_canMove wX11_canMove
        refine tc_indexOf h2 ?_
        intro x3 e3
        rw [e3, tz_n (x := tz_kx p1) (by omega) (by omega)]
        exact ⟨fun h => absurd h c, fun _ => ⟨rfl, tz_B_no hQ tz_nz1⟩⟩⟩)
      (fun Q m hq hQ => ⟨b1, tm_canMove (tz_Q_W hW hq) h1 (fun h => absurd h c) (fun _ => tz_A_no0 hQ tz_nz1)⟩)
/-! means -/
theorem tz_Q_sd {z : UInt64} : tz_Q M (ts_sd M 176 0 z) := ⟨⟨fun _ _ _ => rfl, fun _ _ _ => rfl⟩, ⟨fun _ _ _ => rfl, fun _ _ _ => rfl⟩, fun _ _ _ => rfl, rfl⟩
/-- a call that throws on both sides, of those whose answer is a number with a point -/
theorem tl_endX {K P : ts_M → Prop} (hr : r = 1) (hK : K m) : ((ts_w r = ts_w 1 → ((¬ (ts_w 1 = 0) → K m) ∧ (ts_w 1 = 0 → P m))) ∧ (¬ (ts_w r = ts_w 1) → Q 0 m)) :=
  ⟨fun _ => ⟨fun _ => hK, fun h => absurd h tz_nz1⟩, fun h => absurd (by rw [hr]) h⟩
theorem tl_c47 (hJ : tz_J B M) (hB : B ≤ 800000000) (hk : tz_K B y5 k28) : wL_law_B2436 L xs k28 Q y5 M := by
  have hW := hJ.1.1
  have hS := hJ.1.2
  have hW1 := tz_W_1 hW
  have e0 := hW1.1
  have e : M.1 1 4 = M.1 165 0 := (tz_S_1 hS).1
  have hs : 0 ≤ tz_sta (M.1 165) ∧ tz_sta (M.1 165) ≤ 1024 := by
    have := tz_sum_rng (f := fun s => tz_a (M.1 165) s 1) (lo := 0) (up := 99) (n := (M.1 165 0).toNat) (fun i h1 h2 => (hW1.2.2.2.1 i h1 (by omega)).2.1)
    unfold tz_sta
    omega
  unfold wL_law_B2436 wL_meanStance wX11_meanStance
  intro x1 e1
  rw [e1, e, tz_n (x := M.1 165 0) (by omega) (by omega)]
  by_cases c : M.1 165 0 = 0
  · refine ⟨fun h => absurd c h, fun _ => ⟨rfl, ?_⟩⟩
    intro x3 e3
    rw [e3]
    unfold wX12_meanStance
    intro M1 eM
    have r1 : M1.1 165 = M.1 165 := by rw [eM, ts_si_ne (by decide)]
    rw [r1, tz_n (x := M.1 165 0) (by omega) (by omega)]
    refine ⟨fun h => absurd c h, fun _ => ?_⟩
    unfold wX12_fails
    intro M8 e8
    rw [e8, eM]
    intro x6 e6
    have hJ1 : tz_J (B + 108) (ts_si (ts_si M 164 0 0) 164 0 1) := tz_J_c hJ (by omega) (tz_Q_tr (tz_Q_si (by decide)) (tz_Q_si (by decide)))
    unfold wX12_thrown
    dsimp only
    rw [show (ts_si (ts_si M 164 0 0) 164 0 1).1 164 0 = 1 from tz_si_a]
    exact ⟨fun _ => ⟨fun _ => tz_kk hk hJ1, fun h => absurd h tz_nz1⟩, fun h => absurd rfl h⟩
  · refine ⟨fun _ => ?_, fun h => absurd h c⟩
    refine (tc_stanceSum hW hS).mpr ?_
    refine ⟨tz_vf_ddiv hs (by omega), ?_⟩
    intro M5 e5
    intro x3 e3
    rw [e3]
    unfold wX12_meanStance
    intro M1 eM
    have r1 : M1.1 165 = M.1 165 := by rw [eM, ts_si_ne (by decide), e5]; rfl
    rw [r1, tz_n (x := M.1 165 0) (by omega) (by omega)]
    refine ⟨fun _ => ?_, fun h => absurd h c⟩
    intro x4 e4 x5 e5'
    rw [e4, e5']
    refine tz_ex2 (fun d x1 x2 m => 0 ≤ x2 ∧ x2 ≤ M.1 165 0 ∧ m = M1 ∧ d = (M.1 165 0 - x2).toNat ∧ x1 = tz_sum (fun s => tz_a (M.1 165) s 1) x2.toNat) (M.1 165 0).toNat ⟨by omega, by omega, rfl, by omega, rfl⟩ ?_
    rintro k0 d x1 x2 m ⟨i1, i2, rfl, rfl, i3⟩ hk0
    simp only [wX12_meanStance_L25]
    rw [r1, tz_n (x := x2) (by omega) (by omega), tz_n (x := M.1 165 0) (by omega) (by omega)]
    by_cases c1 : M.1 165 0 ≤ x2
    · rw [tz_y c1]
      have ex : x1 = tz_sta (M.1 165) := by rw [i3, show x2 = M.1 165 0 by omega]; rfl
      rw [ex]
      refine ⟨tz_vf_ddiv hs (by omega), ?_⟩
      intro x6 e6
      have ed : m.2.2 176 0 = FP.ddiv (FP.i2d (ts_I (tz_sta (M.1 165)))) (FP.i2d (ts_I (M.1 165 0))) := by
        rw [eM, e5]; exact tz_sd_a
      have et : m.1 164 0 = 0 := by rw [eM]; exact tz_si_a
      have hJ' : tz_J (B + 108) m := by
        rw [eM, e5]
        exact tz_J_c hJ (by omega) (tz_Q_tr tz_Q_sd (tz_Q_si (by decide)))
      have hK := tz_kk hk hJ'
      unfold wX12_thrown
      dsimp only
      rw [e6, ed, et]
      refine ⟨fun _ => ⟨fun _ => hK, fun _ => ⟨fun _ => hK, fun h => ⟨fun h2 => absurd h2 h, fun _ => ⟨fun _ => hK, fun h2 => absurd h2 h⟩⟩⟩⟩, fun h => absurd rfl h⟩
    · rw [tz_x c1]
      refine (tm_spoon i1 (by omega) (by decide) (by decide)).mpr ?_
      intro x6 e6 x7 e7
      rw [e6, e7, r1]
      refine hk0 _ _ _ _ (by omega) ⟨by omega, by omega, rfl, rfl, ?_⟩
      rw [i3]
      exact (tz_sum_step (f := fun s => tz_a (M.1 165) s 1) i1).symm
theorem tl_c48 (hJ : tz_J B M) (hB : B ≤ 65536) (hk : tz_K B y5 k28) : wL_law_B2501 L xs k28 Q y5 M := by
  have hW := hJ.1.1
  have hS := hJ.1.2
  have hW5 := tz_W_5 hW
  have hP := tz_S_5 hS
  have e7 : M.1 0 7 = M.1 165 7 := hP.2.2.2.1
  have e8 : M.1 0 8 = M.1 165 8 := hP.2.2.2.2
  have g7 := hW5.2.2.1
  have g8 := hW5.2.2.2
  unfold wL_law_B2501 wL_adoptedShare wX11_adoptedShare
  intro x1 e1
  rw [e1, e7, e8, tz_n (x := M.1 165 7) (by omega) (by omega)]
  by_cases c : M.1 165 7 = 0
  · refine ⟨fun h => absurd c h, fun _ => ⟨rfl, ?_⟩⟩
    intro x3 e3
    rw [e3]
    unfold wX12_adoptedShare
    intro M1 eM
    have r1 : M1.1 165 = M.1 165 := by rw [eM, ts_si_ne (by decide)]
    rw [r1, tz_n (x := M.1 165 7) (by omega) (by omega)]
    refine ⟨fun h => absurd c h, fun _ => ?_⟩
    unfold wX12_fails
    intro M8 e8
    rw [e8, eM]
    intro x6 e6
    have hJ1 : tz_J (B + 108) (ts_si (ts_si M 164 0 0) 164 0 1) := tz_J_c hJ (by omega) (tz_Q_tr (tz_Q_si (by decide)) (tz_Q_si (by decide)))
    unfold wX12_thrown
    dsimp only
    rw [show (ts_si (ts_si M 164 0 0) 164 0 1).1 164 0 = 1 from tz_si_a]
    exact ⟨fun _ => ⟨fun _ => tz_kk hk hJ1, fun h => absurd h tz_nz1⟩, fun h => absurd rfl h⟩
  · refine ⟨fun _ => ?_, fun h => absurd h c⟩
    have hv := tz_vf_fdiv (x := M.1 165 8) (y := M.1 165 7) (by omega) (by omega)
    refine ⟨hv, tz_vf_f2d hv, ?_⟩
    intro M5 e5
    intro x3 e3
    rw [e3]
    unfold wX12_adoptedShare
    intro M1 eM
    have r1 : M1.1 165 = M.1 165 := by rw [eM, ts_si_ne (by decide), e5]; rfl
    rw [r1, tz_n (x := M.1 165 7) (by omega) (by omega)]
    refine ⟨fun _ => ⟨hv, ?_⟩, fun h => absurd h c⟩
    intro x6 e6
    have ed : M1.2.2 176 0 = FP.f2d (FP.fdiv (FP.i2f (ts_I (M.1 165 8))) (FP.i2f (ts_I (M.1 165 7)))) := by
      rw [eM, e5]; exact tz_sd_a
    have et : M1.1 164 0 = 0 := by rw [eM]; exact tz_si_a
    have hJ' : tz_J (B + 108) M1 := by
      rw [eM, e5]
      exact tz_J_c hJ (by omega) (tz_Q_tr tz_Q_sd (tz_Q_si (by decide)))
    have hK := tz_kk hk hJ'
    unfold wX12_thrown
    dsimp only
    rw [e6, ed, et, tz_dc0 (tz_vf_f2d hv)]
    exact ⟨fun _ => ⟨fun _ => hK, fun _ => ⟨tz_vf_f2d hv, fun _ => hK, fun h => absurd rfl h⟩⟩, fun h => absurd rfl h⟩
/-! the positions of errors -/
theorem tl_c55 (hJ : tz_J B M) (hk : tz_K B y5 k28) : wL_law_B2764 L xs k28 Q y5 M := by
  obtain ⟨g1, g2, g3, g4⟩ := hJ.2.2.2.1
  have hq164 : ∀ m : ts_M, tz_Q M m → m.1 164 16 = M.1 154 8 := fun m hq => (hq.1.1 164 16 (by unfold tz_kr; omega)).trans g1
  unfold wL_law_B2764
  by_cases c : M.1 154 8 = -1
  · exact tl_RI (F := fun Qc m => wL_errorPosition Qc m) (G := fun Q m => wX12_errorPosition Q m) (o0 := 1) (v0 := 0) hJ hk
      (fun Qc hQ => by
        unfold wL_errorPosition wX11_errorPosition
        rw [c, tz_nm]
        exact ⟨fun h => absurd rfl h, fun _ => ⟨rfl, tz_B_no hQ tz_nz1⟩⟩)
      (fun Q m hq hQ => by
        unfold wX12_errorPosition
        intro M1 e
        rw [e, tz_si_k (by decide), hq164 m hq, c, tz_nm]
        exact ⟨fun h => absurd h (by decide), fun _ => tz_A_no hQ tz_nz1⟩)
  · exact tl_RI (F := fun Qc m => wL_errorPosition Qc m) (G := fun Q m => wX12_errorPosition Q m) (o0 := 0) (v0 := M.1 154 8) hJ hk
      (fun Qc hQ => by
        unfold wL_errorPosition wX11_errorPosition
        rw [tz_n (x := M.1 154 8) (by omega) (by omega)]
        exact ⟨fun _ => tz_B_ok hQ tz_Q_rfl, fun h => absurd h c⟩)
      (fun Q m hq hQ => by
        unfold wX12_errorPosition
        intro M1 e
        rw [e, tz_si_k (by decide), hq164 m hq, tz_n (x := M.1 154 8) (by omega) (by omega)]
        exact ⟨fun _ => tz_A_ok hQ, fun h => absurd (by omega) h⟩)
theorem tl_c56 (hJ : tz_J B M) (hk : tz_K B y5 k28) : wL_law_B2808 L xs k28 Q y5 M := by
  obtain ⟨g1, g2, g3, g4⟩ := hJ.2.2.2.1
  have hq164 : ∀ m : ts_M, tz_Q M m → m.1 164 17 = M.1 154 9 := fun m hq => (hq.1.1 164 17 (by unfold tz_kr; omega)).trans g3
  unfold wL_law_B2808
  by_cases c : M.1 154 9 = -1
  · exact tl_RI (F := fun Qc m => wL_failedCommand Qc m) (G := fun Q m => wX12_failedCommand Q m) (o0 := 1) (v0 := 0) hJ hk
      (fun Qc hQ => by
        unfold wL_failedCommand wX11_failedCommand
        rw [c, tz_nm]
        exact ⟨fun h => absurd rfl h, fun _ => ⟨rfl, tz_B_no hQ tz_nz1⟩⟩)
      (fun Q m hq hQ => by
        unfold wX12_failedCommand
        intro M1 e
        rw [e, tz_si_k (by decide), hq164 m hq, c, tz_nm]
        exact ⟨fun h => absurd h (by decide), fun _ => tz_A_no hQ tz_nz1⟩)
  · exact tl_RI (F := fun Qc m => wL_failedCommand Qc m) (G := fun Q m => wX12_failedCommand Q m) (o0 := 0) (v0 := M.1 154 9) hJ hk
      (fun Qc hQ => by
        unfold wL_failedCommand wX11_failedCommand
        rw [tz_n (x := M.1 154 9) (by omega) (by omega)]
        exact ⟨fun _ => tz_B_ok hQ tz_Q_rfl, fun h => absurd h c⟩)
      (fun Q m hq hQ => by
        unfold wX12_failedCommand
        intro M1 e
        rw [e, tz_si_k (by decide), hq164 m hq, tz_n (x := M.1 154 9) (by omega) (by omega)]
        exact ⟨fun _ => tz_A_ok hQ, fun h => absurd (by omega) h⟩)
/-! undo -/
theorem tz_SAV_m (hR : tz_SAV B M) (hB : B ≤ B') (e1 : m.1 154 7 = M.1 154 7) (e2 : m.1 164 7 = M.1 164 7) (e3 : m.1 167 = M.1 167) (e4 : ∀ a : Nat, 28 ≤ a → a < 42 → m.1 a = M.1 a ∧ m.2.1 a = M.2.1 a) : tz_SAV B' m := by
  obtain ⟨a1, a2, a3⟩ := hR
  unfold tz_SAV
  rw [e1, e2, e3]
  exact ⟨a1, a2, fun h => ⟨tz_W_mono (a3 h).1 hB, tz_S_m (a3 h).1 (a3 h).2 (fun a h3 h4 => e4 a h3 (by omega))⟩⟩
theorem tz_ERR_m (hR : tz_ERR M) (e1 : m.1 164 16 = M.1 164 16) (e2 : m.1 154 8 = M.1 154 8) (e3 : m.1 164 17 = M.1 164 17) (e4 : m.1 154 9 = M.1 154 9) : tz_ERR m := by
  unfold tz_ERR
  rw [e1, e2, e3, e4]
  exact hR
theorem tz_TXT_m (hR : tz_TXT M) (e1 : m.1 160 3 = M.1 160 3) (e2 : m.1 164 14 = M.1 164 14) (e3 : m.1 161 = M.1 161) (e4 : m.1 173 = M.1 173) : tz_TXT m := by
  unfold tz_TXT
  rw [e1, e2, e3, e4]
  exact hR
theorem tz_OUT_m (hR : tz_OUT M) (e1 : m.1 177 = M.1 177) (e2 : m.1 164 12 = M.1 164 12) (e3 : m.1 172 = M.1 172) (e4 : m.1 178 = M.1 178) : tz_OUT m := by
  unfold tz_OUT
  rw [e1, e2, e3, e4]
  exact hR
theorem tl_c57 (hJ : tz_J B M) (hk : tz_K B y5 k28) : wL_law_B2852 L xs k28 Q y5 M := by
  have hJ2 := hJ
  obtain ⟨⟨hW, hS⟩, ⟨n, h, hH, hHM⟩, hRS⟩ := hJ2
  have hn := hH.2.1
  unfold wL_law_B2852
  by_cases c : n = 0
  · exact tl_RI (F := fun Qc m => wL_undo Qc m) (G := fun Q m => wX12_undo Q m) (o0 := 1) (v0 := 0) hJ hk
      (fun Qc hQ => by
        unfold wL_undo wX11_undo
        rw [hH.1, c, tz_n0]
        exact ⟨fun h => absurd rfl h, fun _ => ⟨rfl, tz_B_no hQ tz_nz1⟩⟩)
      (fun Q m hq hQ => by
        have hM2 : tz_HM m n h := tz_HM_c hHM hq.2.1
        exact tm_undo hM2 (fun _ => tz_A_no0 hQ tz_nz1) (fun h => absurd c h))
  · exact tl_I (F := fun Qc m => wL_undo Qc m) (G := fun Q m => wX12_undo Q m) (R := fun m o => o = 0 ∧ ∃ m0 : ts_M, tz_fr (fun a => a < 14 ∨ a = 158) M m0 ∧ tz_W B (h 0) ∧ tz_S 0 m0 (h 0) ∧ tz_H B m0 (n - 1) (fun i => h (i + 1)) ∧ m = ts_sl m0 175 0 (ts_L (n - 1))) hk
      (fun Qc hQ => by
        unfold wL_undo wX11_undo
        rw [hH.1, tz_n (x := n) (by omega) (by omega)]
        refine ⟨fun _ => ?_, fun h => absurd h c⟩
        refine tc_stepBack hH c (fun m0 f hW0 hS0 hH0 => ?_)
        rw [hH0.1]
        intro M5 e5
        exact hQ M5 0 ⟨rfl, m0, f, hW0, hS0, hH0, e5⟩)
      (fun Q m o hR hQ => by
        obtain ⟨ho, m0, f, hW0, hS0, hH0, em⟩ := hR
        have g1 : ∀ a : Nat, ¬ (a < 14 ∨ a = 158) → m.1 a = M.1 a := fun a ha => by rw [em]; exact (f.1 a ha).1
        have g2 : ∀ a : Nat, ¬ (a < 14 ∨ a = 158) → a ≠ 175 → m.2.1 a = M.2.1 a := fun a ha h5 => by rw [em, ts_sl_ne h5, (f.1 a ha).2]
        have hM2 : tz_HM m n h := by
          unfold tz_HM
          rw [g1 164 (by decide), g1 166 (by decide)]
          exact hHM
        refine tm_undo hM2 (fun h => absurd h c) (fun _ m' f' o0 ok he hM' => ?_)
        have q1 : ∀ a : Nat, a ≠ 164 → a ≠ 165 → m'.1 a = m.1 a := fun a h4 h5 => tz_fr_1 f' (by omega)
        have q2 : ∀ a : Nat, a ≠ 164 → a ≠ 165 → m'.2.1 a = m.2.1 a := fun a h4 h5 => (f'.1 a (by omega)).2
        have ez : m.2.1 175 0 = ts_L (n - 1) := by rw [em]; exact tz_sl_a
        refine hQ (n - 1) m' ?_ (by rw [o0, ho]) (fun _ => by rw [q2 175 (by decide) (by decide), ez])
        have hW' : tz_W B (m'.1 165) := tz_W_c hW0 he
        have k1 : ∀ c : Nat, c < 14 → m'.1 (0 + c) = m0.1 (0 + c) := fun c hc => by rw [q1 (0 + c) (by omega) (by omega), em]; rfl
        have k2 : m'.2.1 (0 + 11) 0 = m0.2.1 (0 + 11) 0 := by rw [q2 (0 + 11) (by decide) (by decide), em, ts_sl_ne (by decide)]
        have hS' : tz_S 0 m' (m'.1 165) := tz_S_c hW0 hS0 k1 k2 he
        refine tz_J_w (B' := B + 108) hJ (by omega) (tz_W_mono hW' (by omega)) hS' rfl (tz_H_m hH0 (by omega) (fun a h4 h5 => ⟨?_, ?_⟩) ?_) hM' ⟨fun a j hk => ?_, fun a h4 h5 => ?_⟩
        · rw [q1 a (by omega) (by omega), em]; rfl
        · rw [q2 a (by omega) (by omega), em, ts_sl_ne (by omega)]
        · rw [q1 158 (by decide) (by decide), em]; rfl
        · unfold tz_kr at hk
          by_cases c4 : a = 164
          · subst c4
            rw [ok j (by omega) (by omega), g1 164 (by decide)]
          · rw [q1 a c4 (by omega), g1 a (by omega)]
        · rw [q2 a (by omega) (by omega), g2 a (by omega) (by omega)])
/-! the snapshot -/
theorem tm_save (hQ : Q (M.1 165 0) (ts_si (tz_cpo (ts_si M 164 0 0) 165 0 167 0 146) 164 7 1)) : wX12_save Q M := by
  simp only [wX12_save, forall_eq]
  have r1 : (ts_si M 164 0 0).1 165 = M.1 165 := ts_si_ne (by decide)
  generalize ts_si M 164 0 0 = M1 at *
  refine tz_ex1 (fun d x m => m = tz_cpo M1 165 0 167 0 x ∧ 0 ≤ x ∧ x ≤ 146 ∧ d = (146 - x).toNat) 146 ⟨(Eq.symm tz_cpo_0), by omega, by omega, by omega⟩ ?_
  rintro k d x m ⟨e, i1, i2, rfl⟩ hk
  simp only [wX12_save_L7, forall_eq]
  rw [tz_n (x := x) (by omega) (by omega)]
  by_cases c1 : 146 ≤ x
  · rw [tz_y c1, e, show x = 146 by omega, ts_si_ne (by decide), tz_cpo_o (by decide), r1]; exact hQ
  · rw [tz_x c1, tz_p ⟨by omega, by omega⟩, tz_p ⟨by omega, by omega⟩]
    refine hk (146 - (x + 1)).toNat _ _ (by omega) ⟨?_, by omega, by omega, rfl⟩
    rw [e, tz_cpo_o (by decide), ← tz_cpo_s i1, Int.zero_add]
theorem tm_restore (h7 : M.1 164 7 = 1) (hQ : Q ((tz_cpo (ts_si M 164 0 0) 167 0 165 0 146).1 165 0) (ts_si (ts_si (tz_cpo (ts_si M 164 0 0) 167 0 165 0 146) 164 5 0) 164 6 0)) : wX12_restore Q M := by
  unfold wX12_restore
  intro M1 eM
  have r7 : M1.1 164 7 = 1 := by rw [eM, tz_si_k (by decide), h7]
  rw [r7, tz_n1]
  refine ⟨fun _ => ?_, fun h => absurd h (by decide)⟩
  rw [← eM] at hQ
  intro x2 e2
  rw [e2]
  refine tz_ex1 (fun d x m => m = tz_cpo M1 167 0 165 0 x ∧ 0 ≤ x ∧ x ≤ 146 ∧ d = (146 - x).toNat) 146 ⟨(Eq.symm tz_cpo_0), by omega, by omega, by omega⟩ ?_
  rintro k d x m ⟨e, i1, i2, rfl⟩ hk
  simp only [wX12_restore_L20, forall_eq]
  rw [tz_n (x := x) (by omega) (by omega)]
  by_cases c1 : 146 ≤ x
  · rw [tz_y c1, e, show x = 146 by omega, ts_si_ne (by decide), ts_si_ne (by decide)]; exact hQ
  · rw [tz_x c1, tz_p ⟨by omega, by omega⟩, tz_p ⟨by omega, by omega⟩]
    refine hk (146 - (x + 1)).toNat _ _ (by omega) ⟨?_, by omega, by omega, rfl⟩
    rw [e, tz_cpo_o (by decide), ← tz_cpo_s i1, Int.zero_add]
theorem tz_cpo_E {a1 a2 : Nat} : tz_E (M.1 a1) ((tz_cpo M a1 0 a2 0 146).1 a2) := fun j h1 h2 => by
  have := tz_cpo_i (M := M) (a1 := a1) (o1 := 0) (a2 := a2) (o2 := 0) h1 h2
  rw [Int.zero_add] at this
  exact this
theorem tl_c58 (hJ : tz_J B M) (hk : tz_K B y5 k28) : wL_law_B2896 L xs k28 Q y5 M := by
  have hJ2 := hJ
  obtain ⟨⟨hW, hS⟩, ⟨n, h, hH, hHM⟩, hR1, hR2, hR3, hR4⟩ := hJ2
  unfold wL_law_B2896
  exact tl_P (F := fun Qc m => wX11_save Qc m) (G := fun Q m => wX12_save Q m) (R := fun m v => v = M.1 165 0 ∧ ∃ m0 : ts_M, tz_F 28 M m0 ∧ tz_S 28 m0 (M.1 165) ∧ m = ts_si m0 154 7 1) hk
    (fun Qc hQ => by
      unfold wX11_save
      refine tc_copy (b := 28) (b2 := 0) (by omega) hW hS (fun m0 f s => ?_)
      intro M2 e2
      have e : M2.1 1 4 = M.1 165 0 := by
        rw [e2, ts_si_ne (by decide), (f.1 1 (by omega)).1]
        exact (tz_S_1 hS).1
      rw [e]
      exact hQ M2 _ ⟨rfl, m0, f, s, e2⟩)
    (fun Q m v hR hQ => by
      obtain ⟨ev, m0, f, s, em⟩ := hR
      have g1 : ∀ a : Nat, ¬ (28 ≤ a ∧ a < 42) → a ≠ 154 → m.1 a = M.1 a := fun a ha h4 => by rw [em, ts_si_ne h4, (f.1 a (by omega)).1]
      have g2 : ∀ a : Nat, ¬ (28 ≤ a ∧ a < 42) → m.2.1 a = M.2.1 a := fun a ha => by rw [em]; exact (f.1 a (by omega)).2
      have g154 : ∀ j : Int, j ≠ 7 → m.1 154 j = M.1 154 j := fun j hj => by rw [em, tz_si_k hj, (f.1 154 (by omega)).1]
      have g7 : m.1 154 7 = 1 := by rw [em]; exact tz_si_a
      have gS : ∀ a : Nat, 28 ≤ a → a < 42 → m.1 a = m0.1 a ∧ m.2.1 a = m0.2.1 a := fun a h4 h5 => ⟨by rw [em, ts_si_ne (by omega)], by rw [em]; rfl⟩
      refine tm_save ?_
      rw [g1 165 (by omega) (by decide), ← ev]
      refine hQ _ ?_
      generalize e3 : ts_si (tz_cpo (ts_si m 164 0 0) 165 0 167 0 146) 164 7 1 = m'
      have q1 : ∀ a : Nat, a ≠ 164 → a ≠ 167 → m'.1 a = m.1 a := fun a h4 h5 => by rw [← e3, ts_si_ne h4, tz_cpo_o h5, ts_si_ne h4]
      have q2 : m'.2 = m.2 := by rw [← e3]; rfl
      have q164 : ∀ j : Int, j ≠ 0 → j ≠ 7 → m'.1 164 j = m.1 164 j := fun j h4 h5 => by rw [← e3, tz_si_k h5, tz_cpo_o (by decide), tz_si_k h4]
      have q7 : m'.1 164 7 = 1 := by rw [← e3]; exact tz_si_a
      have q167 : tz_E (M.1 165) (m'.1 167) := by
        have e4 := tz_cpo_E (M := ts_si m 164 0 0) (a1 := 165) (a2 := 167)
        rw [ts_si_ne (by decide), g1 165 (by omega) (by decide)] at e4
        rw [← e3, ts_si_ne (by decide)]
        exact e4
      have r165 : m'.1 165 = M.1 165 := by rw [q1 165 (by decide) (by decide), g1 165 (by omega) (by decide)]
      have hH' : tz_H (B + 108) m' n h := tz_H_m hH (by omega) (fun a h4 h5 => ⟨by rw [q1 a (by omega) (by omega), g1 a (by omega) (by omega)], by rw [q2, g2 a (by omega)]⟩) (by rw [q1 158 (by decide) (by decide), g1 158 (by omega) (by decide)])
      have hM' : tz_HM m' n h := tz_HM_c hHM ⟨fun a j hk => by
        unfold tz_kh at hk
        by_cases c4 : a = 164
        · subst c4
          rw [q164 j (by omega) (by omega), g1 164 (by omega) (by decide)]
        · rw [q1 a c4 (by omega), g1 a (by omega) (by omega)], fun a h4 h5 => by rw [q2, g2 a (by omega)]⟩
      refine ⟨⟨by rw [r165]; exact tz_W_mono hW (by omega), ?_⟩, ⟨n, h, hH', hM'⟩, ⟨by rw [q1 154 (by decide) (by decide)]; exact Or.inr g7, ?_, fun _ => ⟨tz_W_mono (tz_W_c hW q167) (by omega), ?_⟩⟩, ?_, ?_, ?_⟩
      · rw [r165]
        exact tz_S_m hW hS (fun a h4 h5 => ⟨by rw [q1 a (by omega) (by omega), g1 a (by omega) (by omega)], by rw [q2, g2 a (by omega)]⟩)
      · rw [q7, q1 154 (by decide) (by decide), g7]
      · exact tz_S_c hW s (fun c hc => by rw [q1 (28 + c) (by omega) (by omega)]; exact (gS (28 + c) (by omega) (by omega)).1) (by rw [q2]; exact congrFun (gS (28 + 11) (by omega) (by omega)).2 0) q167
      · exact tz_ERR_m hR2 (by rw [q164 16 (by decide) (by decide), g1 164 (by omega) (by decide)]) (by rw [q1 154 (by decide) (by decide), g154 8 (by decide)]) (by rw [q164 17 (by decide) (by decide), g1 164 (by omega) (by decide)]) (by rw [q1 154 (by decide) (by decide), g154 9 (by decide)])
      · exact tz_TXT_m hR3 (by rw [q1 160 (by decide) (by decide), g1 160 (by omega) (by decide)]) (by rw [q164 14 (by decide) (by decide), g1 164 (by omega) (by decide)]) (by rw [q1 161 (by decide) (by decide), g1 161 (by omega) (by decide)]) (by rw [q1 173 (by decide) (by decide), g1 173 (by omega) (by decide)])
      · exact tz_OUT_m hR4 (by rw [q1 177 (by decide) (by decide), g1 177 (by omega) (by decide)]) (by rw [q164 12 (by decide) (by decide), g1 164 (by omega) (by decide)]) (by rw [q1 172 (by decide) (by decide), g1 172 (by omega) (by decide)]) (by rw [q1 178 (by decide) (by decide), g1 178 (by omega) (by decide)]))
theorem tl_c59 (hJ : tz_J B M) (hk : tz_K B y5 k28) : wL_law_B2909 L xs k28 Q y5 M := by
  have hJ2 := hJ
  obtain ⟨⟨hW, hS⟩, ⟨n, h, hH, hHM⟩, hRS⟩ := hJ2
  obtain ⟨⟨a1, a2, a3⟩, -⟩ := hRS
  unfold wL_law_B2909
  by_cases c : M.1 154 7 = 0
  · exact tl_RI (F := fun Qc m => wL_restore Qc m) (G := fun Q m => wX12_restore Q m) (o0 := 1) (v0 := 0) hJ hk
      (fun Qc hQ => by
        unfold wL_restore wX11_restore
        rw [c, tz_n0]
        exact ⟨fun h => absurd rfl h, fun _ => ⟨rfl, tz_B_no hQ tz_nz1⟩⟩)
      (fun Q m hq hQ => by
        unfold wX12_restore
        intro M1 eM
        have r7 : M1.1 164 7 = 0 := by rw [eM, tz_si_k (by decide), hq.1.1 164 7 (by unfold tz_kr; omega), a2, c]
        rw [r7, tz_n0, eM]
        exact ⟨fun h => absurd rfl h, fun _ => tz_A_no hQ tz_nz1⟩)
  · have c1 : M.1 154 7 = 1 := by omega
    obtain ⟨hW7, hS7⟩ := a3 c1
    exact tl_I (F := fun Qc m => wL_restore Qc m) (G := fun Q m => wX12_restore Q m) (R := fun m o => o = 0 ∧ ∃ m0 : ts_M, tz_F 0 M m0 ∧ tz_S 0 m0 (M.1 167) ∧ m = ts_sl (ts_si m0 158 2 0) 175 0 (ts_L (M.1 167 0))) hk
      (fun Qc hQ => by
        unfold wL_restore wX11_restore wX3_forgetAll
        rw [c1, tz_n1]
        refine ⟨fun _ => ?_, fun h => absurd h (by decide)⟩
        refine tc_copy (b := 0) (b2 := 28) (by omega) hW7 hS7 (fun m0 f s => ?_)
        intro M2 e2
        have e : M2.1 1 4 = M.1 167 0 := by
          rw [e2, ts_si_ne (by decide)]
          exact (tz_S_1 s).1
        rw [e]
        intro M5 e5
        exact hQ M5 0 ⟨rfl, m0, f, s, by rw [e5, e2]⟩)
      (fun Q m o hR hQ => by
        obtain ⟨ho, m0, f, s, em⟩ := hR
        have g1 : ∀ a : Nat, ¬ (a < 14) → a ≠ 158 → m.1 a = M.1 a := fun a ha h4 => by
          rw [em]
          show (ts_si m0 158 2 0).1 a = M.1 a
          rw [ts_si_ne h4, (f.1 a (by omega)).1]
        have g2 : ∀ a : Nat, ¬ (a < 14) → a ≠ 175 → m.2.1 a = M.2.1 a := fun a ha h5 => by rw [em, ts_sl_ne h5]; exact (f.1 a (by omega)).2
        have g158 : m.1 158 1 = M.1 158 1 ∧ m.1 158 2 = 0 := by
          rw [em]
          show (ts_si m0 158 2 0).1 158 1 = _ ∧ (ts_si m0 158 2 0).1 158 2 = 0
          exact ⟨by rw [tz_si_k (by decide), (f.1 158 (by omega)).1], tz_si_a⟩
        have ez : m.2.1 175 0 = ts_L (M.1 167 0) := by rw [em]; exact tz_sl_a
        have r167 : m.1 167 = M.1 167 := g1 167 (by decide) (by decide)
        refine tm_restore (by rw [g1 164 (by decide) (by decide), a2, c1]) ?_
        have e4 := tz_cpo_E (M := ts_si m 164 0 0) (a1 := 167) (a2 := 165)
        rw [ts_si_ne (by decide), r167] at e4
        rw [e4 0 (by decide) (by decide)]
        generalize e3 : ts_si (ts_si (tz_cpo (ts_si m 164 0 0) 167 0 165 0 146) 164 5 0) 164 6 0 = m'
        have q1 : ∀ a : Nat, a ≠ 164 → a ≠ 165 → m'.1 a = m.1 a := fun a h4 h5 => by rw [← e3, ts_si_ne h4, ts_si_ne h4, tz_cpo_o h5, ts_si_ne h4]
        have q2 : m'.2 = m.2 := by rw [← e3]; rfl
        have q164 : ∀ j : Int, j ≠ 0 → j ≠ 5 → j ≠ 6 → m'.1 164 j = m.1 164 j := fun j h4 h5 h6 => by rw [← e3, tz_si_k h6, tz_si_k h5, tz_cpo_o (by decide), tz_si_k h4]
        have q0 : m'.1 164 0 = 0 := by rw [← e3, tz_si_k (by decide), tz_si_k (by decide), tz_cpo_o (by decide), tz_si_a]
        have q5 : m'.1 164 5 = 0 := by rw [← e3, tz_si_k (by decide), tz_si_a]
        have q6 : m'.1 164 6 = 0 := by rw [← e3]; exact tz_si_a
        have q165 : tz_E (M.1 167) (m'.1 165) := by rw [← e3, ts_si_ne (by decide), ts_si_ne (by decide)]; exact e4
        refine hQ (M.1 167 0) m' ?_ (by rw [q0, ho]) (fun _ => by rw [q2, ez])
        have hW' := tz_W_c hW7 q165
        have hS' : tz_S 0 m' (m'.1 165) := tz_S_c hW7 s (fun c hc => by
          rw [q1 (0 + c) (by omega) (by omega), em]
          show (ts_si m0 158 2 0).1 (0 + c) = _
          rw [ts_si_ne (by omega)]) (by rw [q2, em, ts_sl_ne (by decide)]; rfl) q165
        refine tz_J_w (B' := B + 108) (n := 0) (h := h) hJ (by omega) (tz_W_mono hW' (by omega)) hS' rfl ⟨by rw [q1 158 (by decide) (by decide)]; exact g158.2, by decide, by rw [q1 158 (by decide) (by decide), g158.1]; exact hH.2.2.1, fun i hi => absurd hi (by omega)⟩ ⟨q5, by decide, by rw [q6]; decide, fun i hi => absurd hi (by omega)⟩ ⟨fun a j hk => ?_, fun a h4 h5 => ?_⟩
        · unfold tz_kr at hk
          by_cases c4 : a = 164
          · subst c4
            rw [q164 j (by omega) (by omega) (by omega), g1 164 (by decide) (by decide)]
          · rw [q1 a c4 (by omega), g1 a (by omega) (by omega)]
        · rw [q2, g2 a (by omega) (by omega)])
/-! typing -/
theorem tz_nar127 : ∀ a : Fin 127, ts_nar .char (a.val : Int) = (a.val : Int) := by decide +kernel
theorem tl_c53 (hJ : tz_J B M) (b1 : (0 ≤ ts_w (y5 + 1) ∧ ts_w (y5 + 1) < (L : Int))) (hk : tz_K B y5 k28) : wL_law_B2662 L xs k28 Q y5 M := by
  have hJ2 := hJ
  obtain ⟨hMN, hHH, hR1, hR2, hR3, hR4⟩ := hJ2
  have hR3' := hR3
  obtain ⟨t1, t2, t3⟩ := hR3'
  have h1 : ts_w (ts_i2c (ts_xs xs (ts_w (y5 + 1)))) = ts_i2c (ts_xs xs (ts_w (y5 + 1))) := tz_i2c_w
  unfold wL_law_B2662
  generalize ts_i2c (ts_xs xs (ts_w (y5 + 1))) = p1 at h1 ⊢
  have hq14 : ∀ m : ts_M, tz_Q M m → m.1 164 14 = M.1 160 3 := fun m hq => (hq.1.1 164 14 (by unfold tz_kr; omega)).trans t2
  by_cases c : 32 ≤ p1 ∧ p1 ≤ 126
  · by_cases c2 : M.1 160 3 = 60
    · exact tl_RI (F := fun Qc m => (0 ≤ ts_w (y5 + 1) ∧ ts_w (y5 + 1) < (L : Int)) ∧ wL_type p1 Qc m) (G := fun Q m => (0 ≤ ts_w (y5 + 1) ∧ ts_w (y5 + 1) < (L : Int)) ∧ wX12_type p1 Q m) (o0 := 2) (v0 := 0) hJ hk
        (fun Qc hQ => ⟨b1, by
          unfold wL_type wX11_type wX7_isFull
          rw [h1, c2]
          refine ⟨fun h => absurd h (by omega), fun _ => ⟨fun _ => ⟨fun h => absurd h (by decide), fun _ => ⟨Or.inr tz_n1, fun h => absurd h tz_nz1, fun _ => ?_⟩⟩, fun h => absurd c.2 h⟩⟩
          exact Or.inr ⟨rfl, tz_B_no hQ tz_nz2⟩⟩)
        (fun Q m hq hQ => ⟨b1, by
          unfold wX12_type
          intro M1 e
          refine (tm_isBetween h1 (by decide) (by decide)).mpr ?_
          rw [tz_in_t.mpr c, tz_i1, tz_n1, e, tz_si_k (by decide), hq14 m hq, c2]
          refine ⟨fun _ => ⟨fun h => absurd (by decide) h, fun _ => tz_A_no hQ tz_nz2⟩, fun h => absurd h (by decide)⟩⟩)
    · have en : ts_nar .char p1 = p1 := by
        obtain ⟨u, eu⟩ : ∃ u : Nat, p1 = (u : Int) := ⟨_, (Int.toNat_of_nonneg (by omega)).symm⟩
        rw [eu]; exact tz_nar127 ⟨u, by omega⟩
      exact tl_I (F := fun Qc m => (0 ≤ ts_w (y5 + 1) ∧ ts_w (y5 + 1) < (L : Int)) ∧ wL_type p1 Qc m) (G := fun Q m => (0 ≤ ts_w (y5 + 1) ∧ ts_w (y5 + 1) < (L : Int)) ∧ wX12_type p1 Q m) (R := fun m o => o = 0 ∧ m = ts_sl (ts_si (ts_si M 161 (M.1 160 3) p1) 160 3 (M.1 160 3 + 1)) 175 0 (ts_L (M.1 160 3 + 1))) hk
        (fun Qc hQ => ⟨b1, by
          unfold wL_type wX11_type wX7_isFull wX7_add wX7_isFull_B14 wX7_add_B29
          rw [h1, tz_n (x := M.1 160 3) (by omega) (by omega)]
          refine ⟨fun h => absurd h (by omega), fun _ => ⟨fun _ => ⟨fun _ => ⟨Or.inl tz_n0, fun _ => ?_, fun h => absurd tz_n0 h⟩, fun h => absurd (by omega) h⟩, fun h => absurd c.2 h⟩⟩
          dsimp only
          rw [tz_n (x := M.1 160 3) (by omega) (by omega)]
          refine ⟨fun h => absurd h (by omega), fun _ => ⟨by omega, ?_⟩⟩
          intro M1 eM1 M2 eM2
          rw [en] at eM1
          have e3 : M1.1 160 3 = M.1 160 3 := by rw [eM1, ts_si_ne (by decide)]
          rw [e3] at eM2
          have e4 : M2.1 160 3 = M.1 160 3 + 1 := by rw [eM2]; exact tz_si_a
          rw [e4]
          intro M5 e5
          exact hQ M5 0 ⟨rfl, by rw [e5, eM2, eM1]⟩⟩)
        (fun Q m o hR hQ => ⟨b1, by
          obtain ⟨ho, em⟩ := hR
          have g1 : ∀ a : Nat, a ≠ 160 → a ≠ 161 → m.1 a = M.1 a := fun a h4 h5 => by
            rw [em]
            show (ts_si (ts_si M 161 (M.1 160 3) p1) 160 3 (M.1 160 3 + 1)).1 a = _
            rw [ts_si_ne h4, ts_si_ne h5]
          have g160 : ∀ j : Int, j ≠ 3 → m.1 160 j = M.1 160 j := fun j hj => by
            rw [em]
            show (ts_si (ts_si M 161 (M.1 160 3) p1) 160 3 (M.1 160 3 + 1)).1 160 j = _
            rw [tz_si_k hj, ts_si_ne (by decide)]
          have g3 : m.1 160 3 = M.1 160 3 + 1 := by
            rw [em]
            show (ts_si (ts_si M 161 (M.1 160 3) p1) 160 3 (M.1 160 3 + 1)).1 160 3 = _
            exact tz_si_a
          have g161 : ∀ j : Int, m.1 161 j = if j = M.1 160 3 then p1 else M.1 161 j := fun j => by
            rw [em]
            show (ts_si (ts_si M 161 (M.1 160 3) p1) 160 3 (M.1 160 3 + 1)).1 161 j = _
            rw [ts_si_ne (by decide)]
            by_cases cj : j = M.1 160 3
            · rw [if_pos cj, cj]; exact tz_si_a
            · rw [if_neg cj, tz_si_k cj]
          have g2 : ∀ a : Nat, a ≠ 175 → m.2.1 a = M.2.1 a := fun a h5 => by rw [em, ts_sl_ne h5]; rfl
          have ez : m.2.1 175 0 = ts_L (M.1 160 3 + 1) := by rw [em]; exact tz_sl_a
          unfold wX12_type
          intro M1 e
          refine (tm_isBetween h1 (by decide) (by decide)).mpr ?_
          have e14 : M1.1 164 14 = M.1 160 3 := by rw [e, tz_si_k (by decide), g1 164 (by decide) (by decide), t2]
          rw [tz_in_t.mpr c, tz_i1, tz_n1, e14, tz_n (x := M.1 160 3) (by omega) (by omega)]
          refine ⟨fun _ => ⟨fun _ => ⟨by omega, ?_⟩, fun h => absurd h c2⟩, fun h => absurd h (by decide)⟩
          intro M4 e4 M5 e5
          rw [en] at e4
          have e6 : M4.1 164 14 = M.1 160 3 := by rw [e4, ts_si_ne (by decide), e14]
          rw [e6] at e5
          have e7 : M5.1 164 14 = M.1 160 3 + 1 := by rw [e5]; exact tz_si_a
          rw [e7]
          have q1 : ∀ a : Nat, a ≠ 164 → a ≠ 173 → M5.1 a = m.1 a := fun a h4 h5 => by rw [e5, ts_si_ne h4, e4, ts_si_ne h5, e, ts_si_ne h4]
          have q164 : ∀ j : Int, j ≠ 0 → j ≠ 14 → M5.1 164 j = M.1 164 j := fun j h4 h5 => by rw [e5, tz_si_k h5, e4, ts_si_ne (by decide), e, tz_si_k h4, g1 164 (by decide) (by decide)]
          have q0 : M5.1 164 0 = 0 := by rw [e5, tz_si_k (by decide), e4, ts_si_ne (by decide), e, tz_si_a]
          have q173 : ∀ j : Int, M5.1 173 j = if j = M.1 160 3 then p1 else M.1 173 j := fun j => by
            rw [e5, ts_si_ne (by decide), e4]
            by_cases cj : j = M.1 160 3
            · rw [if_pos cj, cj]; exact tz_si_a
            · rw [if_neg cj, tz_si_k cj, e, ts_si_ne (by decide), g1 173 (by decide) (by decide)]
          have q2 : M5.2 = m.2 := by rw [e5, e4, e]; rfl
          have hq : ∀ (a : Nat) (j : Int), a ≠ 160 → a ≠ 161 → a ≠ 164 → a ≠ 173 → M5.1 a j = M.1 a j := fun a j h4 h5 h6 h7 => by rw [q1 a h6 h7, g1 a h4 h5]
          have hq2 : ∀ a : Nat, a ≠ 175 → M5.2.1 a = M.2.1 a := fun a h5 => by rw [q2, g2 a h5]
          refine hQ _ M5 ⟨tz_MN_c hMN (by omega) ⟨fun a j hk => hq a j (by unfold tz_km at hk; omega) (by unfold tz_km at hk; omega) (by unfold tz_km at hk; omega) (by unfold tz_km at hk; omega), by rw [hq2 11 (by decide)]⟩, tz_HH_c hHH (by omega) ⟨fun a j hk => ?_, fun a h4 h5 => hq2 a (by omega)⟩, tz_SAV_m hR1 (by omega) (hq 154 7 (by decide) (by decide) (by decide) (by decide)) (q164 7 (by decide) (by decide)) (by funext j; exact hq 167 j (by decide) (by decide) (by decide) (by decide)) (fun a h4 h5 => ⟨by funext j; exact hq a j (by omega) (by omega) (by omega) (by omega), hq2 a (by omega)⟩), tz_ERR_m hR2 (q164 16 (by decide) (by decide)) (hq 154 8 (by decide) (by decide) (by decide) (by decide)) (q164 17 (by decide) (by decide)) (hq 154 9 (by decide) (by decide) (by decide) (by decide)), ?_, tz_OUT_m hR4 (by funext j; exact hq 177 j (by decide) (by decide) (by decide) (by decide)) (q164 12 (by decide) (by decide)) (by funext j; exact hq 172 j (by decide) (by decide) (by decide) (by decide)) (by funext j; exact hq 178 j (by decide) (by decide) (by decide) (by decide))⟩ (by rw [q0, ho]) (fun _ => by rw [q2, ez])
          · unfold tz_kh at hk
            by_cases c4 : a = 164
            · subst c4; exact q164 j (by omega) (by omega)
            · exact hq a j (by omega) (by omega) c4 (by omega)
          · unfold tz_TXT
            rw [q1 160 (by decide) (by decide), g3, e7]
            refine ⟨by omega, rfl, fun j h4 h5 => ?_⟩
            rw [q1 161 (by decide) (by decide), g161 j, q173 j]
            by_cases cj : j = M.1 160 3
            · rw [if_pos cj, if_pos cj]; omega
            · rw [if_neg cj, if_neg cj]; exact t3 j h4 (by omega)⟩)
  · exact tl_RI (F := fun Qc m => (0 ≤ ts_w (y5 + 1) ∧ ts_w (y5 + 1) < (L : Int)) ∧ wL_type p1 Qc m) (G := fun Q m => (0 ≤ ts_w (y5 + 1) ∧ ts_w (y5 + 1) < (L : Int)) ∧ wX12_type p1 Q m) (o0 := 1) (v0 := 0) hJ hk
      (fun Qc hQ => ⟨b1, by
        unfold wL_type wX11_type wX11_type_B12
        rw [h1]
        have hx := tz_B_no hQ tz_nz1
        exact ⟨fun _ => Or.inl ⟨rfl, hx⟩, fun h => ⟨fun h2 => absurd ⟨by omega, h2⟩ c, fun _ => Or.inl ⟨rfl, hx⟩⟩⟩⟩)
      (fun Q m hq hQ => ⟨b1, by
        unfold wX12_type
        intro M1 e
        refine (tm_isBetween h1 (by decide) (by decide)).mpr ?_
        rw [tz_in_f.mpr c, tz_i0, tz_n0, e]
        exact ⟨fun h => absurd rfl h, fun _ => tz_A_no hQ tz_nz1⟩⟩)
end TLU
