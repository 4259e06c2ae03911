/-! ===== the law's rounds: the output text ===== -/
def tz_rt (w : Int → Int) : Nat → List Int
  | 0 => []
  | k + 1 => tz_rt w k ++ [tz_lt (tz_mo w (k : Int))] ++ (if tz_mo w (k : Int) = 0 then tz_num (w 60) else if tz_mo w (k : Int) = 1 then tz_num (w 61) else [])
/-- the table's text -/
def tz_tt (w : Int → Int) : List Int := tz_rt w (w 3).toNat ++ (if w 4 = 0 then [] else [33])
def tz_rl (w : Int → Int) : Nat → List Int
  | 0 => []
  | k + 1 => tz_rl w k ++ (if k = 0 then [] else [44]) ++ tz_num (tz_pi w (k : Int)) ++ [64] ++ tz_num (tz_pp w (k : Int))
/-- the list's text -/
def tz_tl (w : Int → Int) : List Int := tz_rl w (w 1).toNat
section TLQ
variable {B B' n y5 o v p : Int} {k : Nat} {L : Nat} {xs : Nat → Int32} {k28 : Int → ts_M → Prop} {Q Qc : Int → ts_M → Prop} {Qv : ts_M → Prop} {M m m2 : ts_M} {w : Int → Int} {t : List Int}
theorem tz_60_rng (hW : tz_W B w) (hB : B ≤ 99999) {j : Int} (h1 : 0 ≤ j) (h2 : j < w 3) (h3 : tz_mo w j = 0) : tz_mo w 0 = 0 ∧ (0 ≤ w 60 ∧ w 60 ≤ 99999) := by
  have hW3 := tz_W_3 hW
  have g3 := hW3.1
  have z0 : tz_mo w 0 = 0 := by
    by_cases c0 : j = 0
    · rw [c0] at h3; exact h3
    · have g1 := hW3.2.2.2.1 0 j (by omega) (by omega) h2
      have g2 := hW3.2.2.1 0 (by omega) (by omega)
      omega
  obtain ⟨a1, a2, a3⟩ := tz_pl_main hW (by omega) z0
  have hW2 := tz_W_2 hW
  have g2 := hW2.2.1
  have g4 := (hW2.2.2.1 (tz_pl w (w 60)) a1 a2).1
  exact ⟨z0, by omega, by omega⟩
theorem tz_rt_len (hW : tz_W B w) (hB : B ≤ 99999) : ∀ k : Nat, (k : Int) ≤ w 3 → (tz_rt w k).length ≤ 7 * k ∧ tz_ck (tz_rt w k)
  | 0, _ => ⟨Nat.le_refl 0, fun c hc => absurd hc (by simp [tz_rt])⟩
  | k + 1, h => by
    obtain ⟨h1, h2⟩ := tz_rt_len hW hB k (by omega)
    have hl := tz_lt_rng (r := tz_mo w (k : Int))
    have h61 := tz_W61 hW
    unfold tz_rt
    by_cases c1 : tz_mo w (k : Int) = 0
    · have h60 := (tz_60_rng hW hB (by omega) (by omega) c1).2
      have h3 := tz_num_len (v := w 60) (by omega)
      rw [if_pos c1, List.length_append, List.length_append, List.length_singleton]
      exact ⟨by omega, tz_ck_app (tz_ck_app h2 (tz_ck_1 (by omega))) (tz_num_ck (by omega))⟩
    · rw [if_neg c1]
      by_cases c2 : tz_mo w (k : Int) = 1
      · have h3 := tz_num_len (v := w 61) (by omega)
        rw [if_pos c2, List.length_append, List.length_append, List.length_singleton]
        exact ⟨by omega, tz_ck_app (tz_ck_app h2 (tz_ck_1 (by omega))) (tz_num_ck (by omega))⟩
      · rw [if_neg c2, List.append_nil, List.length_append, List.length_singleton]
        exact ⟨by omega, tz_ck_app h2 (tz_ck_1 (by omega))⟩
theorem tz_tt_len (hW : tz_W B w) (hB : B ≤ 99999) : (tz_tt w).length ≤ 36 ∧ tz_ck (tz_tt w) := by
  have g3 := (tz_W_3 hW).1
  obtain ⟨h1, h2⟩ := tz_rt_len hW hB (w 3).toNat (by omega)
  unfold tz_tt
  split
  · rw [List.append_nil]; exact ⟨by omega, h2⟩
  · rw [List.length_append, List.length_singleton]; exact ⟨by omega, tz_ck_app h2 (tz_ck_1 (by decide))⟩
theorem tz_rl_len (hW : tz_W B w) (hB : B ≤ 99999) : ∀ k : Nat, (k : Int) ≤ w 1 → (tz_rl w k).length ≤ 10 * k ∧ tz_ck (tz_rl w k) ∧ (k ≤ 6 → (tz_rl w k).length ≤ 10 * k)
  | 0, _ => ⟨Nat.le_refl 0, fun c hc => absurd hc (by simp [tz_rl]), fun _ => Nat.le_refl 0⟩
  | k + 1, h => by
    obtain ⟨h1, h2, -⟩ := tz_rl_len hW hB k (by omega)
    have hW2 := tz_W_2 hW
    have g2 := hW2.2.1
    have g4 := hW2.2.2.1 (k : Int) (by omega) (by omega)
    have h3 := tz_num_len (v := tz_pi w (k : Int)) (by omega)
    have h5 : (tz_num (tz_pp w (k : Int))).length ≤ 2 := by
      unfold tz_num tz_bv tz_bk
      rw [if_neg (by omega), List.length_reverse]
      split
      · simp
      · rw [if_pos (by omega)]; simp
    unfold tz_rl
    have hx : (if k = 0 then ([] : List Int) else [44]).length ≤ 1 := by split <;> decide
    have hy : tz_ck (if k = 0 then ([] : List Int) else [44]) := by
      split
      · intro c hc; exact absurd hc (by simp)
      · exact tz_ck_1 (by decide)
    rw [List.length_append, List.length_append, List.length_append, List.length_append, List.length_singleton]
    exact ⟨by omega, tz_ck_app (tz_ck_app (tz_ck_app (tz_ck_app h2 hy) (tz_num_ck (by omega))) (tz_ck_1 (by decide))) (tz_num_ck (by omega)), fun _ => by omega⟩
/-- the class's world behind a text -/
theorem tz_OB_S (hW : tz_W B w) (hS : tz_S 0 M w) (hO : tz_OB M t m) : tz_S 0 m w := tz_S_m hW hS (fun a h1 h2 => ⟨hO.1 a (by omega) (by omega), by rw [hO.2.1]⟩)
theorem tc_renderTable (hW : tz_W B w) (hS : tz_S 0 M w) (hB : B ≤ 99999) (hOut : tz_OUT M) (hQ : ∀ m : ts_M, tz_OB M (tz_tt w) m → Q ((tz_tt w).length : Int) m) : wX11_renderTable Q M := by
  have hW3 := tz_W_3 hW
  have g3 := hW3.1
  have g4 := hW3.2.1
  have htt := tz_tt_len hW hB
  unfold wX11_renderTable
  refine tc_set0 hOut (fun m0 hO0 => ?_)
  intro x2 e2
  refine ⟨(w 3).toNat + 1, by omega, ?_⟩
  refine tz_lp1 (fun d x1 m => ∃ i : Nat, x1 = (i : Int) ∧ (i : Int) ≤ w 3 ∧ tz_OB M (tz_rt w i) m ∧ d = (w 3).toNat - i) ?_ ((w 3).toNat + 1) (w 3).toNat (Nat.lt_succ_self _) x2 m0 ⟨0, e2, by omega, hO0, rfl⟩
  rintro k0 d x1 m ⟨i, rfl, i2, hO, rfl⟩ hk0
  have hSm := tz_OB_S hW hS hO
  have hP := tz_S_3 hSm
  have e91 : m.1 9 1 = w 3 := hP.1
  have e94 : m.1 9 4 = w 4 := hP.2.2.2.1
  obtain ⟨l1, l2⟩ := tz_rt_len hW hB i i2
  unfold wX11_renderTable_L18 wX11_renderTable_B106
  rw [e91, e94, tz_n (x := (i : Int)) (by omega) (by omega), tz_n (x := w 3) (by omega) (by omega), tz_n (x := w 4) (by omega) (by omega)]
  refine ⟨fun c1 => ?_, fun c1 => ?_⟩
  · have ei : (w 3).toNat = i := by omega
    refine ⟨fun c2 => ?_, fun c2 => ?_⟩
    · have e : tz_rt w i = tz_tt w := by unfold tz_tt; rw [if_pos c2, List.append_nil, ei]
      rw [e] at hO
      unfold wJ4_length_8abf5 wJ5_length_8abf5
      rw [hO.2.2.1]
      exact hQ m hO
    · refine tc_apc hO (by decide) (by omega) (fun m' hO' => ?_)
      have e : tz_rt w i ++ [33] = tz_tt w := by unfold tz_tt; rw [if_neg c2, ei]
      rw [e] at hO'
      unfold wJ4_length_8abf5 wJ5_length_8abf5
      rw [hO'.2.2.1]
      exact hQ m' hO'
  · have hl := tz_lt_rng (r := tz_mo w (i : Int))
    have hr := hW3.2.2.1 (i : Int) (by omega) (by omega)
    have hi : 0 ≤ (i : Int) ∧ (i : Int) < w 3 := ⟨by omega, by omega⟩
    refine tc_letterAt hW hSm (tz_n (by omega) (by omega)) hi ?_
    refine tc_apc hO (by omega) (by omega) (fun m1 hO1 => ?_)
    have hS1 := tz_OB_S hW hS hO1
    have hP1 := tz_S_3 hS1
    have nxt : ∀ m' : ts_M, tz_OB M (tz_rt w (i + 1)) m' → wX11_renderTable_B83 k0 Q (i : Int) m' := fun m' hO' => by
      unfold wX11_renderTable_B83
      intro x13 e13
      rw [e13]
      exact hk0 ((w 3).toNat - (i + 1)) _ m' (by omega) ⟨i + 1, by omega, by omega, hO', rfl⟩
    refine (tc_rankAt (b := 0) hP1.1 hW3.1 hP1.2.2.2.2 (tz_n (by omega) (by omega))).mpr ?_
    rw [if_pos hi, tz_n (x := tz_mo w (i : Int)) (by omega) (by omega)]
    refine ⟨fun c2 => ?_, fun c2 => ?_⟩
    · refine (tc_rankAt (b := 0) hP1.1 hW3.1 hP1.2.2.2.2 (tz_n (by omega) (by omega))).mpr ?_
      rw [if_pos hi, tz_n (x := tz_mo w (i : Int)) (by omega) (by omega)]
      refine ⟨fun c3 => ?_, fun c3 => ?_⟩
      · refine nxt m1 ?_
        unfold tz_rt
        rw [if_neg c2, if_neg c3, List.append_nil]
        exact hO1
      · have e93 : m1.1 9 3 = w 61 := hP1.2.2.1 (i : Int) hi.1 hi.2 c3
        have h61 := tz_W61 hW
        rw [e93]
        refine tc_api hO1 (by omega) (by rw [List.length_append, List.length_singleton]; omega) (fun m' hO' => nxt m' ?_)
        unfold tz_rt
        rw [if_neg c2, if_pos c3]
        exact hO'
    · have h60 := tz_60_rng hW hB hi.1 hi.2 c2
      have e92 : m1.1 9 2 = w 60 := hP1.2.1 (by omega) h60.1
      rw [e92]
      refine tc_api hO1 (by omega) (by rw [List.length_append, List.length_singleton]; omega) (fun m' hO' => nxt m' ?_)
      unfold tz_rt
      rw [if_pos c2]
      exact hO'
theorem tz_OR_row (hO : tz_OR M t m) : m.1 165 = M.1 165 := by
  funext j
  exact hO.1 165 j (by decide) (by omega)
theorem tz_OR_0 : tz_OR M [] (ts_si (ts_si M 164 0 0) 164 12 0) := by
  refine ⟨fun a j h1 h2 => ?_, rfl, tz_si_a, fun j hj => absurd hj (by simp)⟩
  by_cases c : a = 164
  · subst c
    rw [tz_si_k (by omega), tz_si_k (by omega)]
  · rw [ts_si_ne c, ts_si_ne c]
theorem tm_renderTable (hw : M.1 165 = w) (hW : tz_W B w) (hB : B ≤ 99999) (hQ : ∀ m : ts_M, tz_OR M (tz_tt w) m → Q ((tz_tt w).length : Int) m) : wX12_renderTable Q M := by
  have hW3 := tz_W_3 hW
  have g3 := hW3.1
  have g4 := hW3.2.1
  have htt := tz_tt_len hW hB
  unfold wX12_renderTable
  intro M1 e1 M2 e2 x3 e3
  refine tz_ex1 (fun d x1 m => ∃ i : Nat, x1 = (i : Int) ∧ (i : Int) ≤ w 3 ∧ tz_OR M (tz_rt w i) m ∧ d = (w 3).toNat - i) (w 3).toNat ⟨0, e3, by omega, by rw [e2, e1]; exact tz_OR_0, rfl⟩ ?_
  rintro k0 d x1 m ⟨i, rfl, i2, hO, rfl⟩ hk0
  have r1 : m.1 165 = w := (tz_OR_row hO).trans hw
  obtain ⟨l1, l2⟩ := tz_rt_len hW hB i i2
  unfold wX12_renderTable_L12 wX12_renderTable_B107
  rw [r1, tz_n (x := (i : Int)) (by omega) (by omega), tz_n (x := w 3) (by omega) (by omega), tz_n (x := w 4) (by omega) (by omega), tz_n (x := 55 + (i : Int)) (by omega) (by omega)]
  refine ⟨fun c1 => ?_, fun c1 => ?_⟩
  · have ei : (w 3).toNat = i := by omega
    refine ⟨fun c2 => ?_, fun c2 => ?_⟩
    · have e : tz_rt w i = tz_tt w := by unfold tz_tt; rw [if_pos (by omega), List.append_nil, ei]
      rw [e] at hO
      rw [hO.2.2.1]
      exact hQ m hO
    · refine tm_wr hO (by decide) (by omega) (fun m' hO' => ?_)
      have e : tz_rt w i ++ [33] = tz_tt w := by unfold tz_tt; rw [if_neg (by omega), ei]
      rw [e] at hO'
      rw [hO'.2.2.1]
      exact hQ m' hO'
  · have hl := tz_lt_rng (r := tz_mo w (i : Int))
    have hi : 0 ≤ (i : Int) ∧ (i : Int) < w 3 := ⟨by omega, by omega⟩
    have hr := hW3.2.2.1 (i : Int) hi.1 hi.2
    refine ⟨by omega, ?_⟩
    have em : w (55 + (i : Int)) = tz_mo w (i : Int) := rfl
    rw [em]
    refine tm_signOf (r := tz_mo w (i : Int)) (tz_n (by omega) (by omega)) ?_
    refine tm_wr hO (by omega) (by omega) (fun m1 hO1 => ?_)
    have r2 : m1.1 165 = w := (tz_OR_row hO1).trans hw
    have nxt : ∀ m' : ts_M, tz_OR M (tz_rt w (i + 1)) m' → wX12_renderTable_B85 k0 Q (i : Int) m' := fun m' hO' => by
      unfold wX12_renderTable_B85
      intro x13 e13
      rw [e13]
      exact hk0 ((w 3).toNat - (i + 1)) _ m' (by omega) ⟨i + 1, by omega, by omega, hO', rfl⟩
    rw [r2, em, tz_n (x := tz_mo w (i : Int)) (by omega) (by omega)]
    refine ⟨by omega, fun c2 => ?_, fun c2 => ?_⟩
    · unfold wX12_renderTable_B61
      rw [r2, tz_n (x := 55 + (i : Int)) (by omega) (by omega), em, tz_n (x := tz_mo w (i : Int)) (by omega) (by omega)]
      refine ⟨by omega, fun c3 => ?_, fun c3 => ?_⟩
      · refine nxt m1 ?_
        unfold tz_rt
        rw [if_neg c2, if_neg c3, List.append_nil]
        exact hO1
      · have h61 := tz_W61 hW
        refine tm_wn hO1 (by omega) (by rw [List.length_append, List.length_singleton]; omega) (fun m' hO' => nxt m' ?_)
        unfold tz_rt
        rw [if_neg c2, if_pos c3]
        exact hO'
    · have h60 := tz_60_rng hW hB hi.1 hi.2 c2
      refine tm_wn hO1 (by omega) (by rw [List.length_append, List.length_singleton]; omega) (fun m2 hO2 => ?_)
      have r3 : m2.1 165 = w := (tz_OR_row hO2).trans hw
      unfold wX12_renderTable_B61
      rw [r3, tz_n (x := 55 + (i : Int)) (by omega) (by omega), em, tz_n (x := tz_mo w (i : Int)) (by omega) (by omega)]
      refine ⟨by omega, fun _ => nxt m2 ?_, fun c3 => absurd c3 (by omega)⟩
      unfold tz_rt
      rw [if_pos c2]
      exact hO2
/-! the list -/
theorem tc_renderList (hW : tz_W B w) (hS : tz_S 0 M w) (hB : B ≤ 99999) (hOut : tz_OUT M) (hQ : ∀ m : ts_M, tz_OB M (tz_tl w) m → Q ((tz_tl w).length : Int) m) : wX11_renderList Q M := by
  have hW2 := tz_W_2 hW
  have g1 := hW2.1
  have g2 := hW2.2.1
  unfold wX11_renderList
  refine tc_set0 hOut (fun m0 hO0 => ?_)
  intro x2 e2
  refine ⟨(w 1).toNat + 1, by omega, ?_⟩
  refine tz_lp1 (fun d x1 m => ∃ i : Nat, x1 = (i : Int) ∧ (i : Int) ≤ w 1 ∧ tz_OB M (tz_rl w i) m ∧ d = (w 1).toNat - i) ?_ ((w 1).toNat + 1) (w 1).toNat (Nat.lt_succ_self _) x2 m0 ⟨0, e2, by omega, hO0, rfl⟩
  rintro k0 d x1 m ⟨i, rfl, i2, hO, rfl⟩ hk0
  have hSm := tz_OB_S hW hS hO
  have hP := tz_S_2 hSm
  have e62 : m.1 6 2 = w 1 := hP.1
  obtain ⟨l1, l2, -⟩ := tz_rl_len hW hB i i2
  unfold wX11_renderList_L18
  rw [e62, tz_n (x := (i : Int)) (by omega) (by omega), tz_n (x := w 1) (by omega) (by omega)]
  refine ⟨fun c1 => ?_, fun c1 => ?_⟩
  · have e : tz_rl w i = tz_tl w := by unfold tz_tl; rw [show (w 1).toNat = i by omega]
    rw [e] at hO
    unfold wJ4_length_8abf5 wJ5_length_8abf5
    rw [hO.2.2.1]
    exact hQ m hO
  · have g4 := hW2.2.2.1 (i : Int) (by omega) (by omega)
    have h3 := tz_num_len (v := tz_pi w (i : Int)) (by omega)
    have itm : ∀ (m1 : ts_M) (s : List Int), s.length ≤ 1 → s = (if i = 0 then ([] : List Int) else [44]) → tz_OB M (tz_rl w i ++ s) m1 → wX11_renderList_B40 k0 Q (i : Int) m1 := fun m1 s hs es hO1 => by
      unfold wX11_renderList_B40
      have hS1 := tz_OB_S hW hS hO1
      have e7 : m1.1 7 (i : Int) = tz_pi w (i : Int) := ((tz_S_2 hS1).2.2 (i : Int) (by omega) (by omega)).1
      rw [tz_n (x := (i : Int)) (by omega) (by omega), e7]
      refine ⟨by omega, ?_⟩
      refine tc_api hO1 (by omega) (by rw [List.length_append]; omega) (fun m2 hO2 => ?_)
      refine tc_apc hO2 (by decide) (by rw [List.length_append, List.length_append]; omega) (fun m3 hO3 => ?_)
      have hS3 := tz_OB_S hW hS hO3
      have e8 : m3.1 8 (i : Int) = tz_pp w (i : Int) := ((tz_S_2 hS3).2.2 (i : Int) (by omega) (by omega)).2
      rw [e8]
      refine ⟨by omega, ?_⟩
      refine tc_api hO3 (by omega) (by rw [List.length_append, List.length_append, List.length_append, List.length_singleton]; omega) (fun m4 hO4 => ?_)
      intro x8 e9
      rw [e9]
      refine hk0 ((w 1).toNat - (i + 1)) _ m4 (by omega) ⟨i + 1, by omega, by omega, ?_, rfl⟩
      unfold tz_rl
      rw [es] at hO4
      exact hO4
    refine ⟨fun c2 => ?_, fun c2 => ?_⟩
    · refine itm m [] (by decide) (by rw [if_pos (by omega)]) ?_
      rw [List.append_nil]; exact hO
    · refine tc_apc hO (by decide) (by omega) (fun m1 hO1 => ?_)
      exact itm m1 [44] (by decide) (by rw [if_neg (by omega)]) hO1
theorem tm_renderList (hw : M.1 165 = w) (hW : tz_W B w) (hB : B ≤ 99999) (hQ : ∀ m : ts_M, tz_OR M (tz_tl w) m → Q ((tz_tl w).length : Int) m) : wX12_renderList Q M := by
  have hW2 := tz_W_2 hW
  have g1 := hW2.1
  have g2 := hW2.2.1
  unfold wX12_renderList
  intro M1 e1 M2 e2 x3 e3
  refine tz_ex1 (fun d x1 m => ∃ i : Nat, x1 = (i : Int) ∧ (i : Int) ≤ w 1 ∧ tz_OR M (tz_rl w i) m ∧ d = (w 1).toNat - i) (w 1).toNat ⟨0, e3, by omega, by rw [e2, e1]; exact tz_OR_0, rfl⟩ ?_
  rintro k0 d x1 m ⟨i, rfl, i2, hO, rfl⟩ hk0
  have r1 : m.1 165 = w := (tz_OR_row hO).trans hw
  obtain ⟨l1, l2, -⟩ := tz_rl_len hW hB i i2
  unfold wX12_renderList_L12
  rw [r1, tz_n (x := (i : Int)) (by omega) (by omega), tz_n (x := w 1) (by omega) (by omega)]
  refine ⟨fun c1 => ?_, fun c1 => ?_⟩
  · have e : tz_rl w i = tz_tl w := by unfold tz_tl; rw [show (w 1).toNat = i by omega]
    rw [e] at hO
    rw [hO.2.2.1]
    exact hQ m hO
  · have g4 := hW2.2.2.1 (i : Int) (by omega) (by omega)
    have h3 := tz_num_len (v := tz_pi w (i : Int)) (by omega)
    have itm : ∀ (m1 : ts_M) (s : List Int), s.length ≤ 1 → s = (if i = 0 then ([] : List Int) else [44]) → tz_OR M (tz_rl w i ++ s) m1 → wX12_renderList_B32 k0 Q (i : Int) m1 := fun m1 s hs es hO1 => by
      unfold wX12_renderList_B32
      refine (tm_idAt (by omega) (by omega)).mpr ?_
      rw [(tz_OR_row hO1).trans hw]
      refine tm_wn hO1 (by omega) (by rw [List.length_append]; omega) (fun m2 hO2 => ?_)
      refine tm_wr hO2 (by decide) (by rw [List.length_append, List.length_append]; omega) (fun m3 hO3 => ?_)
      refine (tm_positionAt (by omega) (by omega)).mpr ?_
      rw [(tz_OR_row hO3).trans hw]
      refine tm_wn hO3 (by omega) (by rw [List.length_append, List.length_append, List.length_append, List.length_singleton]; omega) (fun m4 hO4 => ?_)
      intro x8 e9
      rw [e9]
      refine hk0 ((w 1).toNat - (i + 1)) _ m4 (by omega) ⟨i + 1, by omega, by omega, ?_, rfl⟩
      unfold tz_rl
      rw [es] at hO4
      exact hO4
    refine ⟨fun c2 => ?_, fun c2 => ?_⟩
    · refine itm m [] (by decide) (by rw [if_pos (by omega)]) ?_
      rw [List.append_nil]; exact hO
    · refine tm_wr hO (by decide) (by omega) (fun m1 hO1 => ?_)
      exact itm m1 [44] (by decide) (by rw [if_neg (by omega)]) hO1
/-! the rounds -/
theorem tz_J_out (hJ : tz_J B M) (hO : tz_OB M t m) (hR : tz_OR m t m2) (hc : tz_ck t) : tz_J (B + 108) m2 := by
  obtain ⟨hMN, hHH, hR1, hR2, hR3, hR4⟩ := hJ
  obtain ⟨o1, o2, o3, o4, o5, o6, o7, o8⟩ := hO
  obtain ⟨r1, r2, r3, r4⟩ := hR
  have g : ∀ (a : Nat) (j : Int), a ≠ 172 → a ≠ 177 → a ≠ 178 → ¬ (a = 164 ∧ (j = 0 ∨ j = 12)) → m2.1 a j = M.1 a j := fun a j h1 h2 h3 h4 => by rw [r1 a j h1 h4, o1 a h2 h3]
  have g2 : m2.2 = M.2 := r2.trans o2
  have e177 : m2.1 177 = m.1 177 := by funext j; exact r1 177 j (by decide) (by omega)
  have e178 : m2.1 178 = m.1 178 := by funext j; exact r1 178 j (by decide) (by omega)
  refine ⟨tz_MN_c hMN (by omega) ⟨fun a j hk => g a j (by unfold tz_km at hk; omega) (by unfold tz_km at hk; omega) (by unfold tz_km at hk; omega) (by unfold tz_km at hk; omega), by rw [g2]⟩, tz_HH_c hHH (by omega) ⟨fun a j hk => g a j (by unfold tz_kh at hk; omega) (by unfold tz_kh at hk; omega) (by unfold tz_kh at hk; omega) (by unfold tz_kh at hk; omega), fun a _ _ => by rw [g2]⟩, tz_SAV_m hR1 (by omega) (g 154 7 (by decide) (by decide) (by decide) (by decide)) (g 164 7 (by decide) (by decide) (by decide) (by decide)) (by funext j; exact g 167 j (by decide) (by decide) (by decide) (by omega)) (fun a h1 h2 => ⟨by funext j; exact g a j (by omega) (by omega) (by omega) (by omega), by rw [g2]⟩), tz_ERR_m hR2 (g 164 16 (by decide) (by decide) (by decide) (by decide)) (g 154 8 (by decide) (by decide) (by decide) (by decide)) (g 164 17 (by decide) (by decide) (by decide) (by decide)) (g 154 9 (by decide) (by decide) (by decide) (by decide)), tz_TXT_m hR3 (g 160 3 (by decide) (by decide) (by decide) (by decide)) (g 164 14 (by decide) (by decide) (by decide) (by decide)) (by funext j; exact g 161 j (by decide) (by decide) (by decide) (by omega)) (by funext j; exact g 173 j (by decide) (by decide) (by decide) (by omega)), ?_⟩
  unfold tz_OUT
  rw [e177, e178, o3, r3]
  refine ⟨o4, o5, o6, ⟨by omega, o7⟩, rfl, fun j h1 h2 => ?_⟩
  obtain ⟨i, ei⟩ : ∃ i : Nat, j = (i : Int) := ⟨_, (Int.toNat_of_nonneg h1).symm⟩
  rw [ei, r4 i (by omega), o8 i (by omega)]
  have hi : i < t.length := by omega
  have hm : t.getD i 0 ∈ t := by
    rw [List.getD_eq_getElem?_getD, List.getElem?_eq_getElem hi]
    exact List.getElem_mem hi
  have := hc _ hm
  exact ⟨rfl, this.1, this.2⟩
theorem tl_c50 (hJ : tz_J B M) (hB : B ≤ 65536) (hk : tz_K B y5 k28) : wL_law_B2580 L xs k28 Q y5 M := by
  have htt := tz_tt_len hJ.1.1 (by omega)
  unfold wL_law_B2580
  exact tl_P (F := fun Qc m => wX11_renderTable Qc m) (G := fun Q m => wX12_renderTable Q m) (R := fun m v => v = ((tz_tt (M.1 165)).length : Int) ∧ tz_OB M (tz_tt (M.1 165)) m) hk
    (fun Qc hQ => tc_renderTable hJ.1.1 hJ.1.2 (by omega) hJ.2.2.2.2.2 (fun m hO => hQ m _ ⟨rfl, hO⟩))
    (fun Q m v hR hQ => by
      obtain ⟨ev, hO⟩ := hR
      have r : m.1 165 = M.1 165 := hO.1 165 (by decide) (by decide)
      rw [ev] at hQ
      exact tm_renderTable r hJ.1.1 (by omega) (fun m2 hR2 => hQ m2 (tz_J_out hJ hO hR2 htt.2)))
theorem tl_c51 (hJ : tz_J B M) (hB : B ≤ 65536) (hk : tz_K B y5 k28) : wL_law_B2593 L xs k28 Q y5 M := by
  have g1 := (tz_W_2 hJ.1.1).1
  have hck : tz_ck (tz_tl (M.1 165)) := (tz_rl_len hJ.1.1 (by omega) (M.1 165 1).toNat (by omega)).2.1
  unfold wL_law_B2593
  exact tl_P (F := fun Qc m => wX11_renderList Qc m) (G := fun Q m => wX12_renderList Q m) (R := fun m v => v = ((tz_tl (M.1 165)).length : Int) ∧ tz_OB M (tz_tl (M.1 165)) m) hk
    (fun Qc hQ => tc_renderList hJ.1.1 hJ.1.2 (by omega) hJ.2.2.2.2.2 (fun m hO => hQ m _ ⟨rfl, hO⟩))
    (fun Q m v hR hQ => by
      obtain ⟨ev, hO⟩ := hR
      have r : m.1 165 = M.1 165 := hO.1 165 (by decide) (by decide)
      rw [ev] at hQ
      exact tm_renderList r hJ.1.1 (by omega) (fun m2 hR2 => hQ m2 (tz_J_out hJ hO hR2 hck)))
theorem tl_c52 (hJ : tz_J B M) (b1 : (0 ≤ ts_w (y5 + 1) ∧ ts_w (y5 + 1) < (L : Int))) (hk : tz_K B y5 k28) : wL_law_B2606 L xs k28 Q y5 M := by
  obtain ⟨d1, d2, d3, d4, d5, d6⟩ := hJ.2.2.2.2.2
  have h1 : ts_w (ts_xs xs (ts_w (y5 + 1))) = ts_xs xs (ts_w (y5 + 1)) := tz_xw
  unfold wL_law_B2606
  generalize ts_xs xs (ts_w (y5 + 1)) = p1 at h1 ⊢
  have q12 : ∀ m : ts_M, tz_Q M m → m.1 164 12 = M.1 177 0 := fun m hq => (hq.1.1 164 12 (by unfold tz_kr; omega)).trans d5
  by_cases c : 0 ≤ p1 ∧ p1 < M.1 177 0
  · obtain ⟨c1, c2, c3⟩ := d6 p1 c.1 c.2
    exact tl_RI (F := fun Qc m => (0 ≤ ts_w (y5 + 1) ∧ ts_w (y5 + 1) < (L : Int)) ∧ wL_outputAt p1 Qc m) (G := fun Q m => (0 ≤ ts_w (y5 + 1) ∧ ts_w (y5 + 1) < (L : Int)) ∧ wX12_outputAt p1 Q m) (o0 := 0) (v0 := M.1 178 p1) hJ hk
      (fun Qc hQ => ⟨b1, by
        unfold wL_outputAt wX11_outputAt
        rw [h1]
        refine ⟨fun h => absurd h (by omega), fun _ => ?_⟩
        unfold wJ4_length_8abf5 wJ5_length_8abf5
        dsimp only
        rw [tz_n (x := M.1 177 0) (by omega) (by omega)]
        refine ⟨fun _ => ?_, fun h => absurd c.2 h⟩
        unfold wJ4_charAt_5068e wJ5_charAt_5068e
        intro x1 e1 q2 e2
        refine ⟨⟨e2, by omega⟩, ?_⟩
        rw [e1, (tz_shl0 (a := M.1 177 2) (by omega)).2]
        refine (tc_min (tz_n (by omega) (by omega)) (tz_n (by omega) (by omega))).mpr ?_
        intro x5 e5
        rw [if_neg (by omega)] at e5
        unfold wJ0_checkIndex_df160 wJ3_checkIndex_8e157
        rw [e5, h1, tz_n (x := M.1 177 0) (by omega) (by omega)]
        refine ⟨fun h => absurd h (by omega), fun _ => ⟨fun _ => ?_, fun h => absurd c.2 h⟩⟩
        rw [tz_n0]
        refine ⟨fun h => absurd rfl h, fun _ => ⟨⟨e2, c.1, by omega⟩, ?_⟩⟩
        dsimp only
        rw [(tz_by (c := M.1 178 p1) (by omega)).2.2.1, tz_n (x := M.1 178 p1) (by omega) (by omega)]
        exact ⟨by omega, by omega, by omega, tz_B_ok hQ tz_Q_rfl⟩⟩)
      (fun Q m hq hQ => ⟨b1, by
        unfold wX12_outputAt
        intro M1 e
        have e12 : M1.1 164 12 = M.1 177 0 := by rw [e, tz_si_k (by decide), q12 m hq]
        have e172 : M1.1 172 p1 = M.1 178 p1 := by rw [e, ts_si_ne (by decide), hq.1.1 172 p1 (by unfold tz_kr; omega), c1]
        rw [e12]
        refine (tm_isBetween h1 tz_n0 (tz_n (by omega) (by omega))).mpr ?_
        rw [tz_in_t.mpr (by omega : 0 ≤ p1 ∧ p1 ≤ M.1 177 0 - 1), tz_i1, tz_n1, h1, e172, tz_n (x := M.1 178 p1) (by omega) (by omega)]
        refine ⟨fun h => absurd h (by decide), fun _ => ⟨by omega, by omega, ?_⟩⟩
        rw [e]
        exact tz_A_ok hQ⟩)
  · exact tl_RI (F := fun Qc m => (0 ≤ ts_w (y5 + 1) ∧ ts_w (y5 + 1) < (L : Int)) ∧ wL_outputAt p1 Qc m) (G := fun Q m => (0 ≤ ts_w (y5 + 1) ∧ ts_w (y5 + 1) < (L : Int)) ∧ wX12_outputAt p1 Q m) (o0 := 1) (v0 := 0) hJ hk
      (fun Qc hQ => ⟨b1, by
        unfold wL_outputAt wX11_outputAt wX11_outputAt_B15
        rw [h1]
        have hx := tz_B_no hQ tz_nz1
        refine ⟨fun _ => ⟨rfl, hx⟩, fun h => ?_⟩
        unfold wJ4_length_8abf5 wJ5_length_8abf5
        dsimp only
        rw [tz_n (x := M.1 177 0) (by omega) (by omega)]
        exact ⟨fun h2 => absurd ⟨by omega, h2⟩ c, fun _ => ⟨rfl, hx⟩⟩⟩)
      (fun Q m hq hQ => ⟨b1, by
        unfold wX12_outputAt
        intro M1 e
        have e12 : M1.1 164 12 = M.1 177 0 := by rw [e, tz_si_k (by decide), q12 m hq]
        rw [e12]
        refine (tm_isBetween h1 tz_n0 (tz_n (by omega) (by omega))).mpr ?_
        rw [tz_in_f.mpr (by omega : ¬ (0 ≤ p1 ∧ p1 ≤ M.1 177 0 - 1)), tz_i0, tz_n0]
        refine ⟨fun _ => ?_, fun h => absurd rfl h⟩
        unfold wX12_fails
        intro M4 e4
        rw [e4, e, show ts_i2c 0 = 0 by decide, tz_n0]
        exact ⟨by decide, tz_A_no0 hQ tz_nz1⟩⟩)
end TLQ
