/-! ===== spoons by sugar ===== -/
/-- a spoon comes before another -/
def tz_rr (w : Int → Int) (x y : Int) : Bool := decide (tz_a w y 2 < tz_a w x 2) || (decide (tz_a w x 2 = tz_a w y 2) && (decide (tz_a w y 0 < tz_a w x 0) || (decide (tz_a w x 0 = tz_a w y 0) && decide (x < y))))
/-- how many come before -/
def tz_rk (w : Int → Int) (a : Int) : Int := tz_sum (fun x => tz_i (tz_rr w x a)) (w 0).toNat
def tz_sr2 (w : Int → Int) (p : Int) : Int := tz_find (w 0) (tz_rk w) p 8 0
section TZG
variable {B p p1 p2 x y z : Int} {a b c k j n f : Nat} {Q : Int → ts_M → Prop} {Qv : ts_M → Prop} {M : ts_M} {w : Int → Int}
theorem tz_rr_iff : tz_rr w x y = true ↔ tz_a w y 2 < tz_a w x 2 ∨ (tz_a w x 2 = tz_a w y 2 ∧ (tz_a w y 0 < tz_a w x 0 ∨ (tz_a w x 0 = tz_a w y 0 ∧ x < y))) := by simp [tz_rr]
theorem tz_rr_irr : tz_rr w x x = false := by
  cases h : tz_rr w x x
  · rfl
  · have := tz_rr_iff.mp h; omega
theorem tz_rr_tr (h1 : tz_rr w x y = true) (h2 : tz_rr w y z = true) : tz_rr w x z = true := by
  rw [tz_rr_iff] at *; omega
theorem tz_rr_tot (h : x ≠ y) : tz_rr w x y = true ∨ tz_rr w y x = true := by
  rw [tz_rr_iff, tz_rr_iff]; omega
theorem tz_sum_lt {f g : Int → Int} {c : Int} : ∀ {n : Nat}, (∀ i : Int, 0 ≤ i → i < (n : Int) → f i ≤ g i) → 0 ≤ c → c < (n : Int) → f c < g c → tz_sum f n < tz_sum g n
  | 0, _, h1, h2, _ => by omega
  | n + 1, h, h1, h2, h3 => by
    show tz_sum f n + f (n : Int) < tz_sum g n + g (n : Int)
    have hn := h (n : Int) (by omega) (by omega)
    by_cases e : c = (n : Int)
    · have hle : tz_sum f n ≤ tz_sum g n := by
        have hh : ∀ m : Nat, m ≤ n → tz_sum f m ≤ tz_sum g m := by
          intro m
          induction m with
          | zero => intro _; exact Int.le_refl _
          | succ m ih =>
            intro hm
            show tz_sum f m + f (m : Int) ≤ tz_sum g m + g (m : Int)
            have := ih (by omega)
            have := h (m : Int) (by omega) (by omega)
            omega
        exact hh n (Nat.le_refl n)
      rw [e] at h3
      omega
    · have := tz_sum_lt (n := n) (fun i h4 h5 => h i h4 (by omega)) h1 (by omega) h3
      omega
theorem tz_rk_lt (h0 : 0 ≤ x) (h1 : x < w 0) (h : tz_rr w x y = true) : tz_rk w x < tz_rk w y := by
  refine tz_sum_lt (c := x) (fun i h2 h3 => ?_) h0 (by omega) ?_
  · cases h4 : tz_rr w i x
    · cases tz_rr w i y <;> decide
    · rw [tz_rr_tr h4 h]; decide
  · rw [tz_rr_irr, h]; decide
theorem tz_rk_rng (h0 : 0 ≤ w 0) (h1 : 0 ≤ x) (h2 : x < w 0) : 0 ≤ tz_rk w x ∧ tz_rk w x < w 0 := by
  have g1 := tz_sum_rng (f := fun i => tz_i (tz_rr w i x)) (lo := 0) (up := 1) (n := (w 0).toNat) (fun i _ _ => by cases tz_rr w i x <;> decide)
  have g2 := tz_sum_lt (f := fun i => tz_i (tz_rr w i x)) (g := fun _ => 1) (c := x) (n := (w 0).toNat) (fun i _ _ => by cases tz_rr w i x <;> decide) h1 (by omega) (by rw [tz_rr_irr]; decide)
  have g3 := tz_sum_rng (f := fun _ => 1) (lo := 1) (up := 1) (n := (w 0).toNat) (fun i _ _ => by omega)
  unfold tz_rk
  omega
theorem tz_rk_inj (h0 : 0 ≤ x) (h1 : x < w 0) (h2 : 0 ≤ y) (h3 : y < w 0) (h : tz_rk w x = tz_rk w y) : x = y := by
  apply Classical.byContradiction
  intro hne
  rcases tz_rr_tot (w := w) hne with g | g
  · have := tz_rk_lt h0 h1 g; omega
  · have := tz_rk_lt h2 h3 g; omega
/-- more places than values -/
theorem tz_pigeon : ∀ (n : Nat) (f : Nat → Nat), (∀ i : Nat, i < n + 1 → f i < n) → ∃ i j : Nat, i < j ∧ j < n + 1 ∧ f i = f j
  | 0, f, h => absurd (h 0 (by omega)) (Nat.not_lt_zero _)
  | n + 1, f, h => by
    by_cases c : ∃ i : Nat, i < n + 1 ∧ f i = f (n + 1)
    · obtain ⟨i, h1, h2⟩ := c
      exact ⟨i, n + 1, h1, by omega, h2⟩
    · have hn := h (n + 1) (by omega)
      have hd : ∀ i : Nat, i < n + 1 → f i ≠ f (n + 1) := fun i hi he => c ⟨i, hi, he⟩
      obtain ⟨i, j, h1, h2, h3⟩ := tz_pigeon n (fun i => if f (n + 1) < f i then f i - 1 else f i) (fun i hi => by
        have := h i (by omega); have := hd i hi
        show (if f (n + 1) < f i then f i - 1 else f i) < n
        split <;> omega)
      refine ⟨i, j, h1, by omega, ?_⟩
      have e1 := hd i (by omega); have e2 := hd j h2
      split at h3 <;> split at h3 <;> omega
theorem tz_rk_onto (h0 : 0 ≤ w 0) (h1 : 0 ≤ p) (h2 : p < w 0) : ∃ x : Int, 0 ≤ x ∧ x < w 0 ∧ tz_rk w x = p := by
  apply Classical.byContradiction
  intro hno
  obtain ⟨n, hn⟩ : ∃ n : Nat, w 0 = ((n + 1 : Nat) : Int) := ⟨(w 0).toNat - 1, by omega⟩
  have hv : ∀ i : Nat, i < n + 1 → 0 ≤ tz_rk w (i : Int) ∧ tz_rk w (i : Int) < w 0 ∧ tz_rk w (i : Int) ≠ p := fun i hi => by
    have := tz_rk_rng (w := w) (x := (i : Int)) h0 (by omega) (by omega)
    exact ⟨this.1, this.2, fun he => hno ⟨(i : Int), by omega, by omega, he⟩⟩
  obtain ⟨i, j, g1, g2, g3⟩ := tz_pigeon n (fun i => if p < tz_rk w (i : Int) then (tz_rk w (i : Int)).toNat - 1 else (tz_rk w (i : Int)).toNat) (fun i hi => by
    have := hv i hi
    show (if p < tz_rk w (i : Int) then (tz_rk w (i : Int)).toNat - 1 else (tz_rk w (i : Int)).toNat) < n
    split <;> omega)
  have e1 := hv i (by omega); have e2 := hv j g2
  have e3 : tz_rk w (i : Int) = tz_rk w (j : Int) := by split at g3 <;> split at g3 <;> omega
  have := tz_rk_inj (w := w) (by omega) (by omega) (by omega) (by omega) e3
  omega
theorem tz_sr2_in (h0 : 0 ≤ w 0 ∧ w 0 ≤ 8) (h1 : 0 ≤ p) (h2 : p < w 0) : 0 ≤ tz_sr2 w p ∧ tz_sr2 w p < w 0 := by
  rcases tz_find_rng (c := w 0) (f := tz_rk w) (v := p) (n := 8) (k := 0) (Int.le_refl _) with h | h
  · obtain ⟨x, g1, g2, g3⟩ := tz_rk_onto h0.1 h1 h2
    exact absurd g3 (tz_find_none (by omega) h (Int.le_refl _) x g1 g2)
  · exact ⟨h.1, h.2.1⟩
theorem tz_sr2_out (h0 : 0 ≤ w 0 ∧ w 0 ≤ 8) (h : ¬ (0 ≤ p ∧ p < w 0)) : tz_sr2 w p = -1 := by
  rcases tz_find_rng (c := w 0) (f := tz_rk w) (v := p) (n := 8) (k := 0) (Int.le_refl _) with g | g
  · exact g
  · have := tz_rk_rng (w := w) (x := tz_find (w 0) (tz_rk w) p 8 0) h0.1 g.1 g.2.1
    omega
/-- the class -/
theorem tc_comesBefore (hW : tz_W B w) (hS : tz_S b M w) (hB : B ≤ 1000000000) (h1 : 0 ≤ x) (h2 : x < w 0) (h3 : 0 ≤ y) (h4 : y < w 0) (hQ : Q (tz_i (tz_rr w x y)) M) : wX8_comesBefore b x y Q M := by
  have e0 := hW.1
  have gx := hS.2.1 x h1 h2
  have gy := hS.2.1 y h3 h4
  have rx := (tz_W_1 hW).2.2.2.1 x h1 h2
  have ry := (tz_W_1 hW).2.2.2.1 y h3 h4
  have hiff := tz_rr_iff (w := w) (x := x) (y := y)
  have hQ1 : tz_rr w x y = true → Q 1 M := fun h => by rw [h] at hQ; exact hQ
  have hQ0 : ¬ tz_rr w x y = true → Q 0 M := fun h => by rw [show tz_rr w x y = false by cases hh : tz_rr w x y; rfl; exact absurd hh h] at hQ; exact hQ
  simp only [wX8_comesBefore, wX8_comesBefore_B53, wX8_comesBefore_B89, wX8_comesBefore_B100]
  rw [tc_has hS.1 (tz_n (by omega) (by omega)) e0, show tz_in 0 x (w 0 - 1) = true from tz_in_t.mpr ⟨h1, by omega⟩, tz_x (by decide)]
  rw [tc_has hS.1 (tz_n (by omega) (by omega)) e0, show tz_in 0 y (w 0 - 1) = true from tz_in_t.mpr ⟨h3, by omega⟩, tz_x2 (by decide)]
  rw [tz_n (x := x) (by omega) (by omega), tz_n (x := y) (by omega) (by omega), tz_p ⟨h1, by omega⟩, tz_p ⟨h3, by omega⟩, gx.1, gy.1, gx.2.2.1, gy.2.2.1]
  rw [tz_n (x := tz_a w x 2) (by omega) (by omega), tz_n (x := tz_a w y 2) (by omega) (by omega), tz_n (x := tz_a w x 0) (by omega) (by omega), tz_n (x := tz_a w y 0) (by omega) (by omega)]
  by_cases c1 : tz_a w x 2 = tz_a w y 2
  · rw [tz_y c1, tz_p ⟨h1, by omega⟩, tz_p ⟨h3, by omega⟩]
    by_cases c2 : tz_a w x 0 = tz_a w y 0
    · rw [tz_y c2]
      by_cases c3 : y ≤ x
      · rw [tz_y c3, tz_g0]; exact hQ0 (by rw [hiff]; omega)
      · rw [tz_x c3, tz_g1]; exact hQ1 (by rw [hiff]; omega)
    · rw [tz_x c2, tz_p ⟨h1, by omega⟩, tz_p ⟨h3, by omega⟩]
      by_cases c3 : tz_a w x 0 ≤ tz_a w y 0
      · rw [tz_y c3, tz_g0]; exact hQ0 (by rw [hiff]; omega)
      · rw [tz_x c3, tz_g1]; exact hQ1 (by rw [hiff]; omega)
  · rw [tz_x c1, tz_p ⟨h1, by omega⟩, tz_p ⟨h3, by omega⟩]
    by_cases c3 : tz_a w x 2 ≤ tz_a w y 2
    · rw [tz_y c3, tz_g0]; exact hQ0 (by rw [hiff]; omega)
    · rw [tz_x c3, tz_g1]; exact hQ1 (by rw [hiff]; omega)
theorem tz_find_s {c v : Int} {g : Int → Int} {i : Int} {n : Nat} : tz_find c g v (n + 1) i = if c ≤ i then -1 else if g i = v then i else tz_find c g v n (i + 1) := by
  first | rfl | (conv => lhs; unfold tz_find)
theorem tc_atSugarRank (hW : tz_W B w) (hS : tz_S b M w) (hB : B ≤ 1000000000) (h1 : 0 ≤ p ∧ p < w 0) (hQ : Q (tz_sr2 w p) M) : wX8_atSugarRank b p Q M := by
  have e0 := hW.1
  have s0 := hS.1
  simp only [wX8_atSugarRank, forall_eq]
  refine tz_ex2 (fun d x1 x2 m => x1 = p ∧ 0 ≤ x2 ∧ x2 ≤ w 0 ∧ m = M ∧ d = (w 0 - x2).toNat ∧ tz_sr2 w p = tz_find (w 0) (tz_rk w) p (8 - x2.toNat) x2) (w 0).toNat ⟨rfl, by omega, by omega, rfl, by omega, rfl⟩ ?_
  rintro k0 d x1 x2 m ⟨rfl, i1, i2, rfl, rfl, i5⟩ hk
  simp only [wX8_atSugarRank_L2, forall_eq]
  rw [s0, tz_n (x := x2) (by omega) (by omega), tz_n (x := w 0) (by omega) (by omega)]
  by_cases c1 : w 0 ≤ x2
  · exfalso
    have h5 := tz_sr2_in (w := w) (p := x1) e0 h1.1 h1.2
    rw [i5] at h5
    have h6 : tz_find (w 0) (tz_rk w) x1 (8 - x2.toNat) x2 = -1 := by
      cases hh : 8 - x2.toNat with
      | zero => rfl
      | succ n => rw [tz_find_s, if_pos c1]
    omega
  · rw [tz_x c1]
    have hstep : 8 - x2.toNat = (8 - (x2 + 1).toNat) + 1 := by omega
    have hr2 := tz_rk_rng (w := w) e0.1 i1 (by omega : x2 < w 0)
    refine tz_ex4 (fun d x1' x2' x3 x4 m2 => x1' = x1 ∧ x2' = x2 ∧ x3 = tz_sum (fun i => tz_i (tz_rr w i x2)) x4.toNat ∧ 0 ≤ x4 ∧ x4 ≤ w 0 ∧ m2 = m ∧ d = (w 0 - x4).toNat) (w 0).toNat ⟨rfl, rfl, rfl, by omega, by omega, rfl, by omega⟩ ?_
    rintro k1 d2 x1' x2' x3 x4 m2 ⟨rfl, rfl, rfl, j1, j2, rfl, rfl⟩ hk2
    simp only [wX8_atSugarRank_L15, wX8_atSugarRank_B37, forall_eq]
    have hsr := tz_sum_rng (f := fun i => tz_i (tz_rr w i x2')) (lo := 0) (up := 1) (n := x4.toNat) (fun i _ _ => by cases tz_rr w i x2' <;> decide)
    rw [s0, tz_n (x := x4) (by omega) (by omega), tz_n (x := w 0) (by omega) (by omega)]
    by_cases c2 : w 0 ≤ x4
    · have he : tz_sum (fun i => tz_i (tz_rr w i x2')) x4.toNat = tz_rk w x2' := by rw [show x4 = w 0 by omega]; rfl
      rw [tz_y c2, he, tz_n (x := tz_rk w x2') (by omega) (by omega), tz_n (x := x1') (by omega) (by omega)]
      rw [hstep, tz_find_s, if_neg c1] at i5
      by_cases c3 : tz_rk w x2' = x1'
      · rw [tz_y2 (by omega)]
        rw [if_pos c3] at i5
        rw [← i5]; exact hQ
      · rw [tz_x2 c3]
        rw [if_neg c3] at i5
        exact hk _ _ _ _ (by omega) ⟨rfl, by omega, by omega, rfl, rfl, i5⟩
    · rw [tz_x c2]
      have e3 := tz_sum_step (f := fun i => tz_i (tz_rr w i x2')) j1
      refine tc_comesBefore hW hS hB j1 (by omega) i1 (by omega) ?_
      rw [tz_iw, tz_iz]
      cases hc : tz_rr w x4 x2'
      · rw [tz_y rfl]
        refine hk2 _ _ _ _ _ _ (by omega) ⟨rfl, rfl, ?_, by omega, by omega, rfl, rfl⟩
        rw [e3, hc]; exact (Int.add_zero _).symm
      · rw [tz_x (by decide)]
        refine hk2 _ _ _ _ _ _ (by omega) ⟨rfl, rfl, ?_, by omega, by omega, rfl, rfl⟩
        rw [e3, hc]; rfl
/-- the reference -/
theorem tm_isRicher (hW : tz_W B (M.1 165)) (hB : B ≤ 1000000000) (h1 : 0 ≤ x) (h2 : x < M.1 165 0) (h3 : 0 ≤ y) (h4 : y < M.1 165 0) (hQ : Q (tz_i (tz_rr (M.1 165) x y)) M) : wX12_isRicher x y Q M := by
  have e0 := hW.1
  have rx := (tz_W_1 hW).2.2.2.1 x h1 h2
  have ry := (tz_W_1 hW).2.2.2.1 y h3 h4
  have hiff := tz_rr_iff (w := M.1 165) (x := x) (y := y)
  have hQ1 : tz_rr (M.1 165) x y = true → Q 1 M := fun h => by rw [h] at hQ; exact hQ
  have hQ0 : ¬ tz_rr (M.1 165) x y = true → Q 0 M := fun h => by rw [show tz_rr (M.1 165) x y = false by cases hh : tz_rr (M.1 165) x y; rfl; exact absurd hh h] at hQ; exact hQ
  simp only [wX12_isRicher, wX12_isRicher_B35, wX12_isRicher_B84]
  have kx : ∀ (k : Int) (Q : Int → ts_M → Prop), 0 ≤ k → k ≤ 3 → (wX12_spoon x k Q M ↔ Q (tz_a (M.1 165) x k) M) := fun k Q g1 g2 => tm_spoon h1 (by omega) g1 g2
  have ky : ∀ (k : Int) (Q : Int → ts_M → Prop), 0 ≤ k → k ≤ 3 → (wX12_spoon y k Q M ↔ Q (tz_a (M.1 165) y k) M) := fun k Q g1 g2 => tm_spoon h3 (by omega) g1 g2
  rw [kx 2 _ (by decide) (by decide), ky 2 _ (by decide) (by decide), kx 0 _ (by decide) (by decide), kx 2 _ (by decide) (by decide), ky 2 _ (by decide) (by decide), ky 0 _ (by decide) (by decide), kx 0 _ (by decide) (by decide), ky 0 _ (by decide) (by decide)]
  rw [tz_n (x := x) (by omega) (by omega), tz_n (x := y) (by omega) (by omega)]
  rw [tz_n (x := tz_a (M.1 165) x 2) (by omega) (by omega), tz_n (x := tz_a (M.1 165) y 2) (by omega) (by omega), tz_n (x := tz_a (M.1 165) x 0) (by omega) (by omega), tz_n (x := tz_a (M.1 165) y 0) (by omega) (by omega)]
  by_cases c1 : tz_a (M.1 165) x 2 = tz_a (M.1 165) y 2
  · rw [tz_y c1]
    by_cases c2 : tz_a (M.1 165) x 0 = tz_a (M.1 165) y 0
    · rw [tz_y c2]
      by_cases c3 : y ≤ x
      · rw [tz_y c3, tz_g0]; exact hQ0 (by rw [hiff]; omega)
      · rw [tz_x c3, tz_g1]; exact hQ1 (by rw [hiff]; omega)
    · rw [tz_x c2]
      by_cases c3 : tz_a (M.1 165) x 0 ≤ tz_a (M.1 165) y 0
      · rw [tz_y c3, tz_g0]; exact hQ0 (by rw [hiff]; omega)
      · rw [tz_x c3, tz_g1]; exact hQ1 (by rw [hiff]; omega)
  · rw [tz_x c1]
    by_cases c3 : tz_a (M.1 165) x 2 ≤ tz_a (M.1 165) y 2
    · rw [tz_y c3, tz_g0]; exact hQ0 (by rw [hiff]; omega)
    · rw [tz_x c3, tz_g1]; exact hQ1 (by rw [hiff]; omega)
theorem tm_spoonBySugar (hW : tz_W B (M.1 165)) (hB : B ≤ 1000000000) (h1 : ts_w p = p) (h0 : ¬ (0 ≤ p ∧ p < M.1 165 0) → Q 0 (ts_si (ts_si M 164 0 0) 164 0 1)) (hQ : 0 ≤ p → p < M.1 165 0 → Q (tz_sr2 (M.1 165) p) (ts_si M 164 0 0)) : wX12_spoonBySugar p Q M := by
  have e0 := hW.1
  have e1 : (ts_si M 164 0 0).1 165 = M.1 165 := ts_si_ne (by decide)
  simp only [wX12_spoonBySugar, forall_eq]
  generalize hM : ts_si M 164 0 0 = M1 at *
  refine tz_ex2 (fun d x1 x2 m => x1 = p ∧ 0 ≤ x2 ∧ x2 ≤ M.1 165 0 ∧ m = M1 ∧ d = (M.1 165 0 - x2).toNat ∧ tz_sr2 (M.1 165) p = tz_find (M.1 165 0) (tz_rk (M.1 165)) p (8 - x2.toNat) x2) (M.1 165 0).toNat ⟨rfl, by omega, by omega, rfl, by omega, rfl⟩ ?_
  rintro k0 d x1 x2 m ⟨rfl, i1, i2, rfl, rfl, i5⟩ hk
  have hWm : tz_W B (m.1 165) := by rw [e1]; exact hW
  simp only [wX12_spoonBySugar_L7, forall_eq]
  rw [e1, tz_n (x := x2) (by omega) (by omega), tz_n (x := M.1 165 0) (by omega) (by omega)]
  by_cases c1 : M.1 165 0 ≤ x2
  · rw [tz_y c1]
    simp only [wX12_fails, forall_eq]
    refine h0 (fun h => ?_)
    have h5 := tz_sr2_in (w := M.1 165) (p := x1) e0 h.1 h.2
    rw [i5] at h5
    have h6 : tz_find (M.1 165 0) (tz_rk (M.1 165)) x1 (8 - x2.toNat) x2 = -1 := by
      cases hh : 8 - x2.toNat with
      | zero => rfl
      | succ n => rw [tz_find_s, if_pos c1]
    omega
  · rw [tz_x c1]
    have hstep : 8 - x2.toNat = (8 - (x2 + 1).toNat) + 1 := by omega
    have hr2 := tz_rk_rng (w := M.1 165) e0.1 i1 (by omega : x2 < M.1 165 0)
    refine tz_ex4 (fun d x1' x2' x3 x4 m2 => x1' = x1 ∧ x2' = x2 ∧ x3 = tz_sum (fun i => tz_i (tz_rr (M.1 165) i x2)) x4.toNat ∧ 0 ≤ x4 ∧ x4 ≤ M.1 165 0 ∧ m2 = m ∧ d = (M.1 165 0 - x4).toNat) (M.1 165 0).toNat ⟨rfl, rfl, rfl, by omega, by omega, rfl, by omega⟩ ?_
    rintro k1 d2 x1' x2' x3 x4 m2 ⟨rfl, rfl, rfl, j1, j2, rfl, rfl⟩ hk2
    simp only [wX12_spoonBySugar_L22, wX12_spoonBySugar_B54, wX12_spoonBySugar_B55, forall_eq]
    have hsr := tz_sum_rng (f := fun i => tz_i (tz_rr (M.1 165) i x2')) (lo := 0) (up := 1) (n := x4.toNat) (fun i _ _ => by cases tz_rr (M.1 165) i x2' <;> decide)
    rw [e1, tz_n (x := x4) (by omega) (by omega), tz_n (x := M.1 165 0) (by omega) (by omega), tz_n (x := x2') (by omega) (by omega)]
    by_cases c2 : M.1 165 0 ≤ x4
    · have he : tz_sum (fun i => tz_i (tz_rr (M.1 165) i x2')) x4.toNat = tz_rk (M.1 165) x2' := by rw [show x4 = M.1 165 0 by omega]; rfl
      rw [tz_y c2, he, tz_n (x := tz_rk (M.1 165) x2') (by omega) (by omega), h1]
      rw [hstep, tz_find_s, if_neg c1] at i5
      by_cases c3 : tz_rk (M.1 165) x2' = x1'
      · rw [tz_y2 (by omega)]
        rw [if_pos c3] at i5
        rw [← i5]; exact hQ (by omega) (by omega)
      · rw [tz_x2 c3]
        rw [if_neg c3] at i5
        exact hk _ _ _ _ (by omega) ⟨rfl, by omega, by omega, rfl, rfl, i5⟩
    · rw [tz_x c2]
      have e3 := tz_sum_step (f := fun i => tz_i (tz_rr (M.1 165) i x2')) j1
      by_cases c4 : x4 = x2'
      · rw [tz_y c4]
        refine hk2 _ _ _ _ _ _ (by omega) ⟨rfl, rfl, ?_, by omega, by omega, rfl, rfl⟩
        rw [e3, c4, tz_rr_irr]; rfl
      · rw [tz_x c4]
        refine tm_isRicher hWm hB j1 (by rw [e1]; omega) i1 (by rw [e1]; omega) ?_
        rw [e1, tz_iw, tz_iz]
        cases hc : tz_rr (M.1 165) x4 x2'
        · rw [tz_y rfl]
          refine hk2 _ _ _ _ _ _ (by omega) ⟨rfl, rfl, ?_, by omega, by omega, rfl, rfl⟩
          rw [e3, hc]; rfl
        · rw [tz_x (by decide)]
          refine hk2 _ _ _ _ _ _ (by omega) ⟨rfl, rfl, ?_, by omega, by omega, rfl, rfl⟩
          rw [e3, hc]; rfl
end TZG
