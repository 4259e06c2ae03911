/-! ===== the reference: sums and the vote ===== -/
section TZV
variable {p p1 p2 p3 lo up B : Int} {Q : Int → ts_M → Prop} {Qv : ts_M → Prop} {M : ts_M}
theorem tm_weights (hW : tz_W B (M.1 165)) : wX12_weights Q M ↔ Q (tz_wts (M.1 165)) M := by
  obtain ⟨e0, _, _, _, _, _, _, _, _, _, _, e1, _⟩ := hW
  simp only [wX12_weights, forall_eq]
  refine tz_it2 (fun d x1 x2 M' => M' = M ∧ 0 ≤ x2 ∧ x2 ≤ M.1 165 0 ∧ d = (M.1 165 0 - x2).toNat ∧ x1 = tz_sum (fun s => tz_a (M.1 165) s 0) x2.toNat) ?_ (M.1 165 0).toNat ⟨rfl, by omega, by omega, by omega, rfl⟩
  rintro d x1 x2 M' ⟨rfl, h2, h3, h4, rfl⟩
  simp only [wX12_weights_L4, forall_eq]
  rw [tz_n (x := M'.1 165 0) (by omega) (by omega), tz_n (x := x2) (by omega) (by omega)]
  by_cases c1 : M'.1 165 0 ≤ x2
  · left
    intro k
    have c2 : x2 = M'.1 165 0 := by omega
    subst c2
    exact ⟨fun h => h.1 c1, fun h => ⟨fun _ => h, fun h5 => absurd c1 h5⟩⟩
  · right
    refine ⟨(M'.1 165 0 - (x2 + 1)).toNat, _, x2 + 1, M', by omega, ⟨rfl, by omega, by omega, rfl, rfl⟩, ?_⟩
    intro k
    rw [tm_spoon h2 (by omega) (by omega) (by omega)]
    have e2 : tz_sum (fun s => tz_a (M'.1 165) s 0) (x2 + 1).toNat = tz_sum (fun s => tz_a (M'.1 165) s 0) x2.toNat + tz_a (M'.1 165) x2 0 := by
      rw [show (x2 + 1).toNat = x2.toNat + 1 by omega]
      show _ + tz_a (M'.1 165) (x2.toNat : Int) 0 = _
      rw [Int.toNat_of_nonneg h2]
    rw [e2]
    exact ⟨fun h => h.2 c1, fun h => ⟨fun h5 => absurd h5 c1, fun _ => h⟩⟩
theorem tm_sugarT (hW : tz_W B (M.1 165)) : wX12_sugarTotal Q M ↔ Q (tz_sug (M.1 165)) (ts_si M 164 0 0) := by
  obtain ⟨e0, _, _, _, _, _, _, _, _, _, _, e1, _⟩ := hW
  simp only [wX12_sugarTotal, forall_eq]
  refine tz_it2 (fun d x1 x2 M' => M' = ts_si M 164 0 0 ∧ 0 ≤ x2 ∧ x2 ≤ M.1 165 0 ∧ d = (M.1 165 0 - x2).toNat ∧ x1 = tz_sum (fun s => tz_a (M.1 165) s 2) x2.toNat) ?_ (M.1 165 0).toNat ⟨rfl, by omega, by omega, by omega, rfl⟩
  rintro d x1 x2 M' ⟨rfl, h2, h3, h4, rfl⟩
  have e3 : (ts_si M 164 0 0).1 165 = M.1 165 := ts_si_ne (by decide)
  simp only [wX12_sugarTotal_L9, forall_eq]
  rw [e3, tz_n (x := M.1 165 0) (by omega) (by omega), tz_n (x := x2) (by omega) (by omega)]
  by_cases c1 : M.1 165 0 ≤ x2
  · left
    intro k
    have c2 : x2 = M.1 165 0 := by omega
    subst c2
    exact ⟨fun h => h.1 c1, fun h => ⟨fun _ => h, fun h5 => absurd c1 h5⟩⟩
  · right
    refine ⟨(M.1 165 0 - (x2 + 1)).toNat, _, x2 + 1, _, by omega, ⟨rfl, by omega, by omega, rfl, rfl⟩, ?_⟩
    intro k
    rw [tm_spoon h2 (by omega) (by omega) (by omega), e3]
    have e2 : tz_sum (fun s => tz_a (M.1 165) s 2) (x2 + 1).toNat = tz_sum (fun s => tz_a (M.1 165) s 2) x2.toNat + tz_a (M.1 165) x2 2 := by
      rw [show (x2 + 1).toNat = x2.toNat + 1 by omega]
      show _ + tz_a (M.1 165) (x2.toNat : Int) 2 = _
      rw [Int.toNat_of_nonneg h2]
    rw [e2]
    exact ⟨fun h => h.2 c1, fun h => ⟨fun h5 => absurd h5 c1, fun _ => h⟩⟩
theorem tm_yes (hB : B ≤ 1000000000) (hW : tz_W B (M.1 165)) (h0 : M.1 165 3 ≠ 0) : wX12_yes Q M ↔ Q (tz_yes (M.1 165)) M := by
  have hW' := hW
  obtain ⟨e0, _, _, _, _, _, _, _, _, _, _, e1, _⟩ := hW'
  simp only [wX12_yes, forall_eq]
  refine tz_it2 (fun d x1 x2 M' => M' = M ∧ 0 ≤ x2 ∧ x2 ≤ M.1 165 0 ∧ d = (M.1 165 0 - x2).toNat ∧ x1 = tz_sum (tz_yw (M.1 165)) x2.toNat) ?_ (M.1 165 0).toNat ⟨rfl, by omega, by omega, by omega, rfl⟩
  rintro d x1 x2 M' ⟨rfl, h2, h3, h4, rfl⟩
  simp only [wX12_yes_L4, wX12_yes_B33, forall_eq]
  rw [tz_n (x := M'.1 165 0) (by omega) (by omega), tz_n (x := x2) (by omega) (by omega)]
  by_cases c1 : M'.1 165 0 ≤ x2
  · left
    intro k
    have c2 : x2 = M'.1 165 0 := by omega
    subst c2
    exact ⟨fun h => h.1 c1, fun h => ⟨fun _ => h, fun h5 => absurd c1 h5⟩⟩
  · right
    refine ⟨(M'.1 165 0 - (x2 + 1)).toNat, _, x2 + 1, M', by omega, ⟨rfl, by omega, by omega, rfl, rfl⟩, ?_⟩
    intro k
    rw [tm_isFor hB hW h0 h2 (by omega), tm_spoon h2 (by omega) (by omega) (by omega)]
    have e2 : tz_sum (tz_yw (M'.1 165)) (x2 + 1).toNat = tz_sum (tz_yw (M'.1 165)) x2.toNat + tz_yw (M'.1 165) x2 := by
      rw [show (x2 + 1).toNat = x2.toNat + 1 by omega]
      show _ + tz_yw (M'.1 165) (x2.toNat : Int) = _
      rw [Int.toNat_of_nonneg h2]
    rw [e2, tz_iw, tz_iz]
    unfold tz_yw
    cases c2 : tz_for (M'.1 165) x2
    · exact ⟨fun h => (h.2 c1).1 rfl, fun h => ⟨fun h5 => absurd h5 c1, fun _ => ⟨fun _ => h, fun h6 => absurd rfl h6⟩⟩⟩
    · exact ⟨fun h => (h.2 c1).2 (by decide), fun h => ⟨fun h5 => absurd h5 c1, fun _ => ⟨fun h6 => absurd h6 (by decide), fun _ => h⟩⟩⟩
theorem tm_isAdopted (hB : B ≤ 1000000000) (hW : tz_W B (M.1 165)) (h0 : M.1 165 3 ≠ 0) : wX12_isAdopted Q M ↔ Q (tz_i (tz_ado (M.1 165))) M := by
  have ht := tz_top_rng hW
  have hy := tz_yes_rng hW
  have hw := tz_wts_rng hW
  have e3 := hW.2.2.2.1
  simp only [wX12_isAdopted, wX12_isAdopted_B49, tm_top e3.1 e3.2, tm_yes hB hW h0, tm_weights hW]
  rw [tz_n (x := tz_top (M.1 165)) (by omega) (by omega), tz_n (x := 2 * tz_yes (M.1 165)) (by omega) (by omega), tz_n (x := 3 * tz_yes (M.1 165)) (by omega) (by omega), tz_n (x := 2 * tz_wts (M.1 165)) (by omega) (by omega), tz_n (x := tz_wts (M.1 165)) (by omega) (by omega)]
  unfold tz_ado
  by_cases c1 : tz_top (M.1 165) = 3
  · rw [if_pos c1]
    by_cases c2 : 2 * tz_wts (M.1 165) ≤ 3 * tz_yes (M.1 165)
    · have c3 : ¬ 3 * tz_yes (M.1 165) < 2 * tz_wts (M.1 165) := by omega
      rw [decide_eq_true c2]
      exact ⟨fun h => ((h.2 c1).2 c3).2, fun h => ⟨fun h5 => absurd c1 h5, fun _ => ⟨fun h5 => absurd h5 c3, fun _ => ⟨Or.inr rfl, h⟩⟩⟩⟩
    · have c3 : 3 * tz_yes (M.1 165) < 2 * tz_wts (M.1 165) := by omega
      rw [decide_eq_false c2]
      exact ⟨fun h => ((h.2 c1).1 c3).2, fun h => ⟨fun h5 => absurd c1 h5, fun _ => ⟨fun _ => ⟨Or.inl rfl, h⟩, fun h5 => absurd c3 h5⟩⟩⟩
  · rw [if_neg c1]
    by_cases c2 : tz_wts (M.1 165) < 2 * tz_yes (M.1 165)
    · have c3 : ¬ 2 * tz_yes (M.1 165) ≤ tz_wts (M.1 165) := by omega
      rw [decide_eq_true c2]
      exact ⟨fun h => ((h.1 c1).2 c3).2, fun h => ⟨fun _ => ⟨fun h5 => absurd h5 c3, fun _ => ⟨Or.inr rfl, h⟩⟩, fun h5 => absurd h5 c1⟩⟩
    · have c3 : 2 * tz_yes (M.1 165) ≤ tz_wts (M.1 165) := by omega
      rw [decide_eq_false c2]
      exact ⟨fun h => ((h.1 c1).1 c3).2, fun h => ⟨fun _ => ⟨fun _ => ⟨Or.inl rfl, h⟩, fun h5 => absurd c3 h5⟩, fun h5 => absurd h5 c1⟩⟩
/-- the first n yes voters have their reward -/
def to_rew (w : Int → Int) : Nat → Int → Int
  | 0 => w
  | n + 1 => if tz_for w (n : Int) then ts_fu (ts_fu (to_rew w n) (11 + 4 * (n : Int) + 2) (tz_a w (n : Int) 2 + 2)) 9 (to_rew w n 9 + 2) else to_rew w n
/-- a row that is like w but for the sugar of the first n spoons, and what was given -/
theorem to_rew_get {w : Int → Int} : ∀ (n : Nat) (j : Int), ¬ (j = 9 ∨ (13 ≤ j ∧ j < 13 + 4 * (n : Int) ∧ (j - 13) % 4 = 0)) → to_rew w n j = w j
  | 0, j, _ => rfl
  | n + 1, j, h1 => by
    have h2 := to_rew_get (w := w) n j (by omega)
    unfold to_rew
    split
    · unfold ts_fu
      rw [if_neg (by omega), if_neg (by omega)]; exact h2
    · exact h2
theorem to_rew_for {w : Int → Int} {n : Nat} {s : Int} (hL : tz_L w) (h0 : n ≤ 8) (h1 : w 3 = 1) (h2 : tz_mo w 0 = 0) (h3 : 0 ≤ tz_pl w (w 60)) : tz_for (to_rew w n) s = tz_for w s := by
  have g : ∀ j : Int, ¬ (j = 9 ∨ (13 ≤ j ∧ j < 13 + 4 * (n : Int) ∧ (j - 13) % 4 = 0)) → to_rew w n j = w j := to_rew_get n
  have e1 : to_rew w n 3 = 1 := by rw [g 3 (by omega)]; exact h1
  have e2 : tz_mo (to_rew w n) 0 = 0 := by unfold tz_mo; rw [g _ (by omega)]; exact h2
  have e3 : tz_top w = 0 := by unfold tz_top; rw [if_neg (by omega), h1]; exact h2
  have e4 : tz_top (to_rew w n) = 0 := by unfold tz_top; rw [if_neg (by omega), e1]; exact e2
  unfold tz_for
  rw [if_pos e3, if_pos e4]
  exact tz_lk_congr hL.1.2 (g 1 (by omega)) (fun k h4 h5 => g k (by omega)) (g 60 (by omega)) h3 (g _ (by omega))
theorem to_rew_at {w : Int → Int} : ∀ {n : Nat} {s : Int}, (n : Int) ≤ s → tz_a (to_rew w n) s 2 = tz_a w s 2 := fun {n} {s} h1 => by
  unfold tz_a; exact to_rew_get n _ (by omega)
def to_min (w : Int → Int) : Int → Int := ts_fu (ts_fu w (62 + w 6 % 20) (w 60)) 6 (w 6 + 1)
def to_out (w : Int → Int) : Int → Int := to_emp (to_off w (tz_pl w (w 60)))
def to_dec (w : Int → Int) (c : Bool) : Int → Int := to_out (if c then to_min (to_rew w (w 0).toNat) else w)
theorem to_min_get {w : Int → Int} {j : Int} (h0 : 0 ≤ w 6) (h1 : ¬ (j = 6 ∨ (62 ≤ j ∧ j < 82))) : to_min w j = w j := by
  unfold to_min ts_fu; rw [if_neg (by omega), if_neg (by omega)]
theorem to_off_get {w : Int → Int} {q j : Int} (h1 : j ≠ 1) (h2 : ¬ (43 ≤ j ∧ j < 55)) (h3 : 0 ≤ q) (h4 : w 1 ≤ 6) (h5 : 1 ≤ w 1) : to_off w q j = w j := by
  unfold to_off; rw [if_neg h1, if_neg (by omega), if_neg (by omega)]
theorem tm_out (hL : tz_L (M.1 165)) (h0 : 0 ≤ M.1 165 0 ∧ M.1 165 0 ≤ 8) (h1 : ts_w (M.1 165 60) = M.1 165 60) (h2 : 0 ≤ tz_pl (M.1 165) (M.1 165 60)) : wX12_decidesMain_B98 Qv M ↔ Qv (tz_sr M (to_out (M.1 165))) := by
  have h3 := tz_pl_rng (w := M.1 165) (v := M.1 165 60) hL.1.2
  have h4 := hL.1
  have e0 : to_off (M.1 165) (tz_pl (M.1 165) (M.1 165 60)) 0 = M.1 165 0 := to_off_get (by omega) (by omega) h2 h4.2 (by omega)
  unfold wX12_decidesMain_B98
  rw [tm_place hL h1, tm_takesOff h2 (by omega) h4.2, tm_empties (by rw [tz_sr_get, e0]; exact h0.1) (by rw [tz_sr_get, e0]; exact h0.2), tz_sr_get, tz_sr_sr]
  exact Iff.rfl
theorem tm_decidesMain {c : Bool} (hB : B ≤ 1000000000) (hL : tz_L (M.1 165)) (h0 : 0 ≤ M.1 165 0 ∧ M.1 165 0 ≤ 8) (h1 : ts_w (M.1 165 60) = M.1 165 60) (h2 : 0 ≤ tz_pl (M.1 165) (M.1 165 60)) (h3 : M.1 165 3 = 1) (h4 : tz_mo (M.1 165) 0 = 0) (h6 : 0 ≤ M.1 165 6 ∧ M.1 165 6 ≤ B) (hS : ∀ s : Int, 0 ≤ s → s < M.1 165 0 → 0 ≤ tz_a (M.1 165) s 1 ∧ tz_a (M.1 165) s 1 ≤ 99) : wX12_decidesMain (tz_i c) Qv M ↔ Qv (tz_sr M (to_dec (M.1 165) c)) := by
  have hrow : ∀ n : Nat, n ≤ 8 → ∀ j : Int, ¬ (j = 9 ∨ (13 ≤ j ∧ j < 13 + 4 * (n : Int) ∧ (j - 13) % 4 = 0)) → to_rew (M.1 165) n j = M.1 165 j := fun n _ j h => to_rew_get n j h
  simp only [wX12_decidesMain, forall_eq]
  refine tz_it2 (fun d x1 x2 M' => x1 = tz_i c ∧ 0 ≤ x2 ∧ x2 ≤ M.1 165 0 ∧ d = (M.1 165 0 - x2).toNat ∧ M' = tz_sr M (if c then to_rew (M.1 165) x2.toNat else M.1 165)) ?_ (M.1 165 0).toNat ⟨rfl, by omega, by omega, by omega, ?_⟩
  · rintro d x1 x2 M' ⟨rfl, g2, g3, g4, rfl⟩
    have g5 : (tz_sr M (if c then to_rew (M.1 165) x2.toNat else M.1 165)).1 165 = (if c then to_rew (M.1 165) x2.toNat else M.1 165) := tz_sr_get
    have g6 : ∀ j : Int, ¬ (j = 9 ∨ (13 ≤ j ∧ j < 13 + 4 * x2 ∧ (j - 13) % 4 = 0)) → (if c then to_rew (M.1 165) x2.toNat else M.1 165) j = M.1 165 j := by
      intro j h
      cases c
      · rfl
      · exact hrow x2.toNat (by omega) j (by rw [Int.toNat_of_nonneg g2]; exact h)
    simp only [wX12_decidesMain_L2, wX12_decidesMain_B52, forall_eq]
    rw [g5, g6 0 (by omega), g6 6 (by omega), g6 60 (by omega), tz_n (x := M.1 165 0) (by omega) (by omega), tz_n (x := x2) (by omega) (by omega), tz_iw, tz_iz, tz_rem h6.1 (by omega) (by omega) (by omega)]
    by_cases c1 : M.1 165 0 ≤ x2
    · left
      intro k
      have c2 : x2 = M.1 165 0 := by omega
      subst c2
      cases c
      · have e1 : (if false = true then to_rew (M.1 165) (M.1 165 0).toNat else M.1 165) = M.1 165 := rfl
        rw [e1, tz_sr_id, tm_out hL h0 h1 h2]
        exact ⟨fun h => (h.1 c1).1 rfl, fun h => ⟨fun _ => ⟨fun _ => h, fun h5 => absurd rfl h5⟩, fun h5 => absurd c1 h5⟩⟩
      · have e1 : (if true = true then to_rew (M.1 165) (M.1 165 0).toNat else M.1 165) = to_rew (M.1 165) (M.1 165 0).toNat := rfl
        have e6 : 0 ≤ M.1 165 6 % 20 ∧ M.1 165 6 % 20 < 20 := ⟨Int.emod_nonneg _ (by omega), Int.emod_lt_of_pos _ (by omega)⟩
        rw [e1, tz_n (x := 62 + M.1 165 6 % 20) (by omega) (by omega)]
        have r6 : to_rew (M.1 165) (M.1 165 0).toNat 6 = M.1 165 6 := hrow _ (by omega) 6 (by omega)
        have r60 : to_rew (M.1 165) (M.1 165 0).toNat 60 = M.1 165 60 := hrow _ (by omega) 60 (by omega)
        have e2 : ts_si (ts_si (tz_sr M (to_rew (M.1 165) (M.1 165 0).toNat)) 165 (62 + M.1 165 6 % 20) (M.1 165 60)) 165 6 ((ts_si (tz_sr M (to_rew (M.1 165) (M.1 165 0).toNat)) 165 (62 + M.1 165 6 % 20) (M.1 165 60)).1 165 6 + 1) = tz_sr M (to_min (to_rew (M.1 165) (M.1 165 0).toNat)) := by
          rw [tz_si_srr, tz_sr_get, tz_si_srr]
          unfold to_min
          have e7 : ts_fu (to_rew (M.1 165) (M.1 165 0).toNat) (62 + M.1 165 6 % 20) (M.1 165 60) 6 = M.1 165 6 := by
            conv => lhs; unfold ts_fu
            rw [if_neg (by omega)]; exact r6
          rw [e7, r6, r60]
        have m1 : ∀ j : Int, ¬ (j = 6 ∨ (62 ≤ j ∧ j < 82)) → ¬ (j = 9 ∨ (13 ≤ j ∧ j < 45 ∧ (j - 13) % 4 = 0)) → to_min (to_rew (M.1 165) (M.1 165 0).toNat) j = M.1 165 j := fun j h7 h8 => by
          rw [to_min_get (by rw [r6]; exact h6.1) h7]; exact hrow _ (by omega) j (by omega)
        have hp : tz_pl (to_min (to_rew (M.1 165) (M.1 165 0).toNat)) (M.1 165 60) = tz_pl (M.1 165) (M.1 165 60) := tz_pl_congr hL.1.2 (m1 1 (by omega) (by omega)) (fun k h7 h8 => m1 k (by omega) (by omega))
        have e3 : wX12_decidesMain_B98 Qv (tz_sr M (to_min (to_rew (M.1 165) (M.1 165 0).toNat))) ↔ Qv (tz_sr M (to_dec (M.1 165) true)) := by
          rw [tm_out (by rw [tz_sr_get]; exact tz_L_congr hL (m1 1 (by omega) (by omega)) (fun k h7 h8 => m1 k (by omega) (by omega))) (by rw [tz_sr_get, m1 0 (by omega) (by omega)]; exact h0) (by rw [tz_sr_get, m1 60 (by omega) (by omega)]; exact h1) (by rw [tz_sr_get, m1 60 (by omega) (by omega), hp]; exact h2), tz_sr_get, tz_sr_sr]
          exact Iff.rfl
        rw [e2, e3]
        exact ⟨fun h => ((h.1 c1).2 (by decide)).2, fun h => ⟨fun _ => ⟨fun h5 => absurd h5 (by decide), fun _ => ⟨⟨by omega, by omega⟩, h⟩⟩, fun h5 => absurd c1 h5⟩⟩
    · right
      have hlx : tz_for (if c then to_rew (M.1 165) x2.toNat else M.1 165) x2 = tz_for (M.1 165) x2 := by
        cases c
        · rfl
        · exact to_rew_for hL (by omega) h3 h4 h2
      refine ⟨(M.1 165 0 - (x2 + 1)).toNat, tz_i c, x2 + 1, tz_sr M (if c then to_rew (M.1 165) (x2 + 1).toNat else M.1 165), by omega, ⟨rfl, by omega, by omega, rfl, rfl⟩, ?_⟩
      intro k
      cases c
      · exact ⟨fun h => (h.2 c1).1 rfl, fun h => ⟨fun h5 => absurd h5 c1, fun _ => ⟨fun _ => h, fun h5 => absurd rfl h5⟩⟩⟩
      · have f1 : tz_a (to_rew (M.1 165) x2.toNat) x2 1 = tz_a (M.1 165) x2 1 := g6 _ (by omega)
        have f2 : tz_a (to_rew (M.1 165) x2.toNat) x2 2 = tz_a (M.1 165) x2 2 := to_rew_at (by omega)
        have f3 := hS x2 g2 (by omega)
        have f4 : tz_pl (to_rew (M.1 165) x2.toNat) (M.1 165 60) = tz_pl (M.1 165) (M.1 165 60) := tz_pl_congr hL.1.2 (g6 1 (by omega)) (fun k h7 h8 => g6 k (by omega))
        have f5 : tz_mo (to_rew (M.1 165) x2.toNat) 0 = 0 := by
          have := g6 (55 + 0) (by omega)
          simp only [if_true] at this
          exact this.trans h4
        have f6 : to_rew (M.1 165) (x2 + 1).toNat = if tz_for (M.1 165) x2 then ts_fu (ts_fu (to_rew (M.1 165) x2.toNat) (11 + 4 * x2 + 2) (tz_a (M.1 165) x2 2 + 2)) 9 (to_rew (M.1 165) x2.toNat 9 + 2) else to_rew (M.1 165) x2.toNat := by
          rw [show (x2 + 1).toNat = x2.toNat + 1 by omega]
          conv => lhs; unfold to_rew
          rw [Int.toNat_of_nonneg g2]
        have f7 : ∀ v : Int, ts_fu (to_rew (M.1 165) x2.toNat) (11 + 4 * x2 + 2) v 9 = to_rew (M.1 165) x2.toNat 9 := fun v => by
          conv => lhs; unfold ts_fu
          rw [if_neg (by omega)]
        show _ ∧ _ ↔ k (tz_i true) (x2 + 1) (tz_sr M (to_rew (M.1 165) (x2 + 1).toNat))
        simp only [if_true] at hlx ⊢
        rw [tm_isFor0 (by rw [tz_sr_get]; exact tz_L_congr hL (g6 1 (by omega)) (fun k h7 h8 => g6 k (by omega))) (by rw [tz_sr_get]; have := g6 60 (by omega); simp only [if_true] at this; rw [this]; exact h1) (by rw [tz_sr_get]; have := g6 60 (by omega); simp only [if_true] at this; rw [this, f4]; exact h2) g2 (by omega) (by rw [tz_sr_get, f1]; exact f3) (by rw [tz_sr_get]; have := g6 3 (by omega); simp only [if_true] at this; rw [this]; exact h3) (by rw [tz_sr_get]; exact f5), tz_sr_get, hlx, tz_iw, tz_iz, f6]
        cases c2 : tz_for (M.1 165) x2
        · exact ⟨fun h => ((h.2 c1).2 (by decide)).2 rfl, fun h => ⟨fun h5 => absurd h5 c1, fun _ => ⟨fun h5 => absurd h5 (by decide), fun _ => ⟨fun h5 => absurd rfl h5, fun _ => h⟩⟩⟩⟩
        · simp only [tm_spoon g2 (by omega : x2 < 8) (by omega : (0 : Int) ≤ 2) (by omega : (2 : Int) ≤ 3), tm_puts g2 (by omega : x2 < 8) (by omega : (0 : Int) ≤ 2) (by omega : (2 : Int) ≤ 3), tz_sr_get, tz_sr_sr, tz_si_srr, f2, f7]
          exact ⟨fun h => ((h.2 c1).2 (by decide)).1 (by decide), fun h => ⟨fun h5 => absurd h5 c1, fun _ => ⟨fun h5 => absurd h5 (by decide), fun _ => ⟨fun _ => h, fun h5 => absurd h5 (by decide)⟩⟩⟩⟩
  · cases c
    · exact tz_sr_id.symm
    · exact tz_sr_id.symm
def to_post (w : Int → Int) : Int → Int := to_emp (to_lists (to_off w (tz_pl w (w 60))) (w 60) (tz_mp w))
def to_rtop (w : Int → Int) : Int → Int := if w 3 = 1 then to_emp (ts_fu (ts_fu w 3 (w 3 - 1)) (55 + (w 3 - 1)) 0) else ts_fu (ts_fu w 3 (w 3 - 1)) (55 + (w 3 - 1)) 0
def to_v1 (w : Int → Int) : Int → Int := ts_fu (ts_fu w 7 (w 7 + 1)) 8 (w 8 + tz_i (tz_ado w))
def to_am (w : Int → Int) (c : Bool) : Int → Int := ts_fu (if c then ts_fu w (43 + 2 * tz_pl w (w 60) + 1) (tz_ch w) else w) 61 0
def to_votes (w : Int → Int) : Int → Int :=
  if tz_top w = 0 then to_dec (to_v1 w) (tz_ado w)
  else if tz_top w = 1 then to_rtop (to_am (to_v1 w) (tz_ado w))
  else if tz_ado w = false then to_rtop (to_v1 w)
  else if tz_top w = 2 then to_post (to_rtop (to_v1 w))
  else if tz_top w = 3 then ts_fu (to_rtop (to_v1 w)) 4 1
  else if tz_top w = 4 then to_adj (to_rtop (to_v1 w))
  else to_rtop (to_v1 w)
theorem tm_postpones (hL : tz_L (M.1 165)) (h0 : 0 ≤ M.1 165 0 ∧ M.1 165 0 ≤ 8) (h1 : ts_w (M.1 165 60) = M.1 165 60) (h2 : 0 ≤ tz_pl (M.1 165) (M.1 165 60)) : wX12_postpones Qv M ↔ Qv (tz_sr M (to_post (M.1 165))) := by
  have h3 := tz_pl_rng (w := M.1 165) (v := M.1 165 60) hL.1.2
  have h4 := hL.1
  have e0 : to_off (M.1 165) (tz_pl (M.1 165) (M.1 165 60)) 0 = M.1 165 0 := to_off_get (by omega) (by omega) h2 h4.2 (by omega)
  have e1 : to_off (M.1 165) (tz_pl (M.1 165) (M.1 165 60)) 1 = M.1 165 1 - 1 := by unfold to_off; rw [if_pos rfl]
  have e2 : ∀ (r : Int → Int) (v x : Int), 0 ≤ r 1 → to_lists r v x 0 = r 0 := fun r v x h => by
    unfold to_lists ts_fu; rw [if_neg (by omega), if_neg (by omega), if_neg (by omega)]
  simp only [wX12_postpones, forall_eq]
  rw [tm_mainPosition hL h1 h2, tm_place hL h1, tm_takesOff h2 (by omega) h4.2, tm_lists (by rw [tz_sr_get, e1]; omega) (by rw [tz_sr_get, e1]; omega), tz_sr_get, tz_sr_sr, tm_empties (by rw [tz_sr_get, e2 _ _ _ (by rw [e1]; omega), e0]; exact h0.1) (by rw [tz_sr_get, e2 _ _ _ (by rw [e1]; omega), e0]; exact h0.2), tz_sr_get, tz_sr_sr]
  exact Iff.rfl
theorem tm_removesTop (h0 : 0 ≤ M.1 165 0 ∧ M.1 165 0 ≤ 8) (h1 : 1 ≤ M.1 165 3 ∧ M.1 165 3 ≤ 5) : wX12_removesTop Qv M ↔ Qv (tz_sr M (to_rtop (M.1 165))) := by
  have e1 : ts_fu (M.1 165) 3 (M.1 165 3 - 1) 3 = M.1 165 3 - 1 := by unfold ts_fu; rw [if_pos rfl]
  have e2 : ts_fu (ts_fu (M.1 165) 3 (M.1 165 3 - 1)) (55 + (M.1 165 3 - 1)) 0 3 = M.1 165 3 - 1 := by
    unfold ts_fu; rw [if_neg (by omega), if_pos rfl]
  have e3 : ts_fu (ts_fu (M.1 165) 3 (M.1 165 3 - 1)) (55 + (M.1 165 3 - 1)) 0 0 = M.1 165 0 := by
    unfold ts_fu; rw [if_neg (by omega), if_neg (by omega)]
  simp only [wX12_removesTop, wX12_removesTop_B38, forall_eq, tz_si_sr, tz_sr_get, tz_sr_sr, e1]
  rw [tz_n (x := 55 + (M.1 165 3 - 1)) (by omega) (by omega)]
  simp only [tz_sr_get, e2]
  rw [tz_n (x := M.1 165 3 - 1) (by omega) (by omega), tm_empties (by rw [tz_sr_get, e3]; exact h0.1) (by rw [tz_sr_get, e3]; exact h0.2), tz_sr_get, tz_sr_sr]
  unfold to_rtop
  by_cases c1 : M.1 165 3 = 1
  · rw [if_pos c1]
    exact ⟨fun h => h.2.2 (by omega), fun h => ⟨⟨by omega, by omega⟩, fun h2 => absurd (by omega) h2, fun _ => h⟩⟩
  · rw [if_neg c1]
    exact ⟨fun h => h.2.1 (by omega), fun h => ⟨⟨by omega, by omega⟩, fun _ => h, fun h2 => absurd (by omega) c1⟩⟩
end TZV
