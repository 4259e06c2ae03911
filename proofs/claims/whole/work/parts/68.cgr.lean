/-! ===== the class: the largest puddle, their number, groups ===== -/
def tz_wb (w : Int → Int) (k : Nat) : Bool := decide (tz_we w (k : Int) = 1)
def tz_mx (f : Nat → Int) : Nat → Int
  | 0 => 0
  | n + 1 => if tz_mx f n < f n then f n else tz_mx f n
def tz_att (f : Nat → Int) (y : Int) : Prop := y = 0 ∨ ∃ k : Nat, k < 64 ∧ f k = y
/-- the first cell of a puddle -/
def tz_ld (wt : Nat → Bool) (k : Nat) : Prop := k < 64 ∧ wt k = true ∧ ∀ j : Nat, j < k → ¬ tz_cp wt k j
section TZQ
variable {B : Int} {Q : Int → ts_M → Prop} {Ql : Int64 → ts_M → Prop} {Qv : ts_M → Prop} {M : ts_M} {b : Nat} {w : Int → Int} {wt : Nat → Bool}
theorem tz_mx_of {f : Nat → Int} : ∀ {n : Nat} {y : Int}, 0 ≤ y → (∀ k : Nat, k < n → f k ≤ y) → (y = 0 ∨ ∃ k : Nat, k < n ∧ f k = y) → tz_mx f n = y
  | 0, y, h0, h1, h2 => by
    rcases h2 with h3 | ⟨k, hk, _⟩
    · exact h3.symm
    · omega
  | n + 1, y, h0, h1, h2 => by
    have up : ∀ m : Nat, ∀ z : Int, 0 ≤ z → (∀ k : Nat, k < m → f k ≤ z) → tz_mx f m ≤ z := by
      intro m
      induction m with
      | zero => intro z hz _; exact hz
      | succ m ihm =>
        intro z hz h3
        unfold tz_mx
        split
        · exact h3 m (by omega)
        · exact ihm z hz (fun k hk => h3 k (by omega))
    have h3 := up n y h0 (fun k hk => h1 k (by omega))
    have h4 := h1 n (by omega)
    unfold tz_mx
    by_cases c1 : f n = y
    · by_cases c2 : tz_mx f n < f n
      · rw [if_pos c2]; exact c1
      · rw [if_neg c2]; omega
    · have h5 : tz_mx f n = y := tz_mx_of h0 (fun k hk => h1 k (by omega)) (by
        rcases h2 with h6 | ⟨k, hk, h6⟩
        · exact Or.inl h6
        · by_cases c3 : k = n
          · rw [c3] at h6; exact absurd h6 c1
          · exact Or.inr ⟨k, by omega, h6⟩)
      rw [h5, if_neg (by omega)]
theorem tz_sz_mono {P P2 : Nat → Prop} (h : ∀ k : Nat, k < 64 → P k → P2 k) : tz_sz P ≤ tz_sz P2 := by
  have gen : ∀ n : Nat, n ≤ 64 → tz_sum (fun k => @ite Int (P k.toNat) (Classical.propDecidable _) 1 0) n ≤ tz_sum (fun k => @ite Int (P2 k.toNat) (Classical.propDecidable _) 1 0) n := by
    intro n
    induction n with
    | zero => intro _; exact Int.le_refl _
    | succ n ihn =>
      intro hn
      have h1 := ihn (by omega)
      show _ + @ite Int (P ((n : Int).toNat)) (Classical.propDecidable _) 1 0 ≤ _ + @ite Int (P2 ((n : Int).toNat)) (Classical.propDecidable _) 1 0
      by_cases c1 : P ((n : Int).toNat)
      · rw [if_pos c1, if_pos (h _ (by omega) c1)]; omega
      · rw [if_neg c1]
        by_cases c2 : P2 ((n : Int).toNat)
        · rw [if_pos c2]; omega
        · rw [if_neg c2]; omega
  exact gen 64 (Nat.le_refl _)
/-- taking a puddle's cells out of a set of cells leaves one cell less at least -/
theorem tz_sz_less {P P2 : Nat → Prop} {a : Nat} (ha : a < 64) (h1 : P a) (h2 : ¬ P2 a) (h3 : ∀ k : Nat, k < 64 → P2 k → P k) : tz_sz P2 + 1 ≤ tz_sz P := by
  have h4 := tz_sz_add (P := P2) (P2 := fun k => P2 k ∨ k = a) h2 (fun k => Iff.rfl) (n := 64) ha
  have h5 : tz_sz (fun k => P2 k ∨ k = a) ≤ tz_sz P := tz_sz_mono (fun k hk h => by
    rcases h with h | h
    · exact h3 k hk h
    · rw [h]; exact h1)
  have h6 : tz_sz (fun k => P2 k ∨ k = a) = tz_sz P2 + 1 := h4
  omega
theorem tc_largest (hQ : Q (tz_mx (fun k => tz_sz (tz_cp (tz_bit (M.2.1 (b + 11) 0)) k)) 64) M) : wX1_largestSize b Q M := by
  simp only [wX1_largestSize, forall_eq]
  generalize hc : M.2.1 (b + 11) 0 = c at hQ ⊢
  refine tz_ex3 (fun d x1 x2 x3 m => m = M ∧ 0 ≤ x3 ∧ x3 ≤ 64 ∧ d = (64 - x3).toNat ∧ (∀ k : Nat, k < 64 → tz_bit x2 k = true → tz_bit c k = true) ∧ (∀ i j : Nat, i < 64 → j < 64 → tz_bit x2 i = true → tz_adj i j = true → tz_bit c j = true → tz_bit x2 j = true) ∧ 0 ≤ x1 ∧ x1 ≤ 64 ∧ (∀ k : Nat, k < 64 → tz_bit x2 k = false → tz_sz (tz_cp (tz_bit c) k) ≤ x1) ∧ tz_att (fun k => tz_sz (tz_cp (tz_bit c) k)) x1 ∧ tz_sz (fun k => tz_bit x2 k = true) + x3 ≤ 64) 64 ⟨rfl, by omega, by omega, rfl, fun _ _ h => h, fun _ _ _ _ _ _ h => h, Int.le_refl 0, by omega, fun k hk h => ?_, Or.inl rfl, ?_⟩ ?_
  · have h1 : tz_sz (tz_cp (tz_bit c) k) = tz_sz (fun _ => False) := tz_sz_eq (fun j _ => ⟨fun h2 => absurd ((tz_cp_src h2).symm.trans h) (by decide), fun h2 => h2.elim⟩)
    have h2 : tz_sz (fun _ => False) = tz_sum (fun _ => 0) 64 := tz_sum_eq (fun i _ _ => if_neg (fun h => h))
    rw [h1, h2]; decide
  · have := (tz_sz_rng (P := fun k => tz_bit c k = true)).2; omega
  · rintro k d x1 x2 x3 m ⟨rfl, i2, i3, i4, i5, i6, i7, i8, i9, i10, i11⟩ hk
    have fin : (∀ k : Nat, k < 64 → tz_bit x2 k = false) → Q x1 m := fun h => by
      rw [← tz_mx_of (f := fun k => tz_sz (tz_cp (tz_bit c) k)) (n := 64) i7 (fun k hk => i9 k hk (h k hk)) i10]; exact hQ
    simp only [wX1_largestSize_L10, wX1_largestSize_B58, wX1_firstOf, forall_eq]
    rw [tz_n (x := x3) (by omega) (by omega)]
    by_cases c1 : 64 ≤ x3
    · rw [tz_y c1]
      refine fin (fun k hk => ?_)
      cases h2 : tz_bit x2 k
      · rfl
      · have h3 := tz_sz_less (P := fun k => tz_bit x2 k = true) (P2 := fun _ => False) hk h2 (fun h => h) (fun _ _ h => h.elim)
        have := (tz_sz_rng (P := fun _ => False)).1
        omega
    · rw [tz_x c1]
      by_cases c2 : x2 = 0
      · rw [tz_y c2]
        exact fin (fun k hk => by rw [c2, tz_bit_0])
      · rw [tz_x c2]
        obtain ⟨q, hq, hb, hl, he⟩ := tz_low c2
        refine tc_walk hq he (fun r hr => ?_)
        rw [hc] at hr
        have hz := tz_sz_rng (P := tz_cp (tz_bit c) q)
        rw [tz_pop, tz_sz_bit hr]
        have cl : ∀ j : Nat, tz_cp (tz_bit c) q j → j < 64 ∧ tz_bit x2 j = true := fun j h => h (fun j => j < 64 ∧ tz_bit x2 j = true) (fun _ => ⟨hq, hb⟩) (fun i j hi hj h1 h2 h3 => ⟨hj, i6 i j hi hj h1.2 h2 h3⟩)
        have b2 : ∀ j : Nat, j < 64 → (tz_bit (x2 &&& (r ^^^ (-1))) j = true ↔ tz_bit x2 j = true ∧ ¬ tz_cp (tz_bit c) q j) := fun j hj => by
          rw [tz_bit_and, tz_bit_not hj, Bool.and_eq_true, Bool.not_eq_true', ← hr j hj, Bool.not_eq_true]
        have cq : tz_cp (tz_bit c) q q := tz_cp_self (i5 q hq hb)
        have o1 : (64 - (x3 + 1)).toNat < d := by omega
        have o2 : 0 ≤ x3 + 1 := by omega
        have o3 : x3 + 1 ≤ 64 := by omega
        have nxt : ∀ y : Int, (x1 ≤ y ∧ tz_sz (tz_cp (tz_bit c) q) ≤ y) → (y = x1 ∨ y = tz_sz (tz_cp (tz_bit c) q)) → k y (x2 &&& (r ^^^ (-1))) (x3 + 1) m := fun y hy1 hy2 => by
          have y64 : y ≤ 64 := by
            rcases hy2 with h | h
            · rw [h]; exact i8
            · rw [h]; exact hz.2
          refine hk (64 - (x3 + 1)).toNat _ _ _ m o1 ⟨rfl, o2, o3, rfl, fun j hj h => i5 j hj ((b2 j hj).mp h).1, fun i j hi hj h1 h2 h3 => ?_, Int.le_trans i7 hy1.1, y64, fun j hj h => ?_, ?_, ?_⟩
          · have h4 := (b2 i hi).mp h1
            exact (b2 j hj).mpr ⟨i6 i j hi hj h4.1 h2 h3, fun h5 => h4.2 (tz_cp_step h5 hj hi (by rw [tz_adj_sym]; exact h2) (i5 i hi h4.1))⟩
          · by_cases h1 : tz_bit x2 j = true
            · have h2 : tz_cp (tz_bit c) q j := by
                apply Classical.byContradiction
                intro h3
                rw [(b2 j hj).mpr ⟨h1, h3⟩] at h; cases h
              have h3 : tz_sz (tz_cp (tz_bit c) j) = tz_sz (tz_cp (tz_bit c) q) := tz_sz_eq (fun i _ => (tz_cp_same hq h2).symm)
              rw [h3]; exact hy1.2
            · have h2 := i9 j hj (by
                cases h4 : tz_bit x2 j
                · rfl
                · exact absurd h4 h1)
              exact Int.le_trans h2 hy1.1
          · rcases hy2 with h1 | h1
            · rw [h1]; exact i10
            · exact Or.inr ⟨q, hq, h1.symm⟩
          · have h3 := tz_sz_less (P := fun k => tz_bit x2 k = true) (P2 := fun k => tz_bit (x2 &&& (r ^^^ (-1))) k = true) hq hb (fun h => ((b2 q hq).mp h).2 cq) (fun j hj h => ((b2 j hj).mp h).1)
            clear i10 hy1 hy2
            omega
        simp only [wJ9_max_7cf53, wJ9_max_7cf53_B10]
        rw [tz_n (x := x1) (by omega) (by omega), tz_n (x := tz_sz _) (by omega) (by omega)]
        by_cases c3 : x1 < tz_sz (tz_cp (tz_bit c) q)
        · rw [tz_y c3]; exact nxt _ ⟨by omega, by omega⟩ (Or.inr rfl)
        · rw [tz_x c3]; exact nxt _ ⟨by omega, by omega⟩ (Or.inl rfl)
theorem tc_countP (hQ : Q (tz_sz (tz_ld (tz_bit (M.2.1 (b + 11) 0)))) M) : wX1_countPuddles b Q M := by
  simp only [wX1_countPuddles, forall_eq]
  generalize hc : M.2.1 (b + 11) 0 = c at hQ ⊢
  refine tz_ex3 (fun d x1 x2 x3 m => m = M ∧ 0 ≤ x3 ∧ x3 ≤ 64 ∧ d = (64 - x3).toNat ∧ (∀ k : Nat, k < 64 → tz_bit x2 k = true → tz_bit c k = true) ∧ (∀ i j : Nat, i < 64 → j < 64 → tz_bit x2 i = true → tz_adj i j = true → tz_bit c j = true → tz_bit x2 j = true) ∧ x1 = tz_sz (fun k => tz_ld (tz_bit c) k ∧ ¬ tz_bit x2 k = true) ∧ tz_sz (fun k => tz_bit x2 k = true) + x3 ≤ 64) 64 ⟨rfl, by omega, by omega, rfl, fun _ _ h => h, fun _ _ _ _ _ _ h => h, ?_, ?_⟩ ?_
  · have h1 : tz_sz (fun k => tz_ld (tz_bit c) k ∧ ¬ tz_bit c k = true) = tz_sz (fun _ => False) := tz_sz_eq (fun j _ => ⟨fun h2 => h2.2 h2.1.2.1, fun h2 => h2.elim⟩)
    have h2 : tz_sz (fun _ => False) = tz_sum (fun _ => 0) 64 := tz_sum_eq (fun i _ _ => if_neg (fun h => h))
    rw [h1, h2]; decide
  · have := (tz_sz_rng (P := fun k => tz_bit c k = true)).2; omega
  · rintro k d x1 x2 x3 m ⟨rfl, i2, i3, i4, i5, i6, i7, i8⟩ hk
    have fin : (∀ k : Nat, k < 64 → tz_bit x2 k = false) → Q x1 m := fun h => by
      rw [i7, tz_sz_eq (P2 := tz_ld (tz_bit c)) (fun j hj => ⟨fun h1 => h1.1, fun h1 => ⟨h1, by rw [h j hj]; decide⟩⟩)]; exact hQ
    simp only [wX1_countPuddles_L10, wX1_countPuddles_B47, wX1_firstOf, forall_eq]
    rw [tz_n (x := x3) (by omega) (by omega)]
    by_cases c1 : 64 ≤ x3
    · rw [tz_y c1]
      refine fin (fun k hk => ?_)
      cases h2 : tz_bit x2 k
      · rfl
      · have h3 := tz_sz_less (P := fun k => tz_bit x2 k = true) (P2 := fun _ => False) hk h2 (fun h => h) (fun _ _ h => h.elim)
        have := (tz_sz_rng (P := fun _ => False)).1
        omega
    · rw [tz_x c1]
      by_cases c2 : x2 = 0
      · rw [tz_y c2]
        exact fin (fun k hk => by rw [c2, tz_bit_0])
      · rw [tz_x c2]
        obtain ⟨q, hq, hb, hl, he⟩ := tz_low c2
        refine tc_walk hq he (fun r hr => ?_)
        rw [hc] at hr
        have cl : ∀ j : Nat, tz_cp (tz_bit c) q j → j < 64 ∧ tz_bit x2 j = true := fun j h => h (fun j => j < 64 ∧ tz_bit x2 j = true) (fun _ => ⟨hq, hb⟩) (fun i j hi hj h1 h2 h3 => ⟨hj, i6 i j hi hj h1.2 h2 h3⟩)
        have b2 : ∀ j : Nat, j < 64 → (tz_bit (x2 &&& (r ^^^ (-1))) j = true ↔ tz_bit x2 j = true ∧ ¬ tz_cp (tz_bit c) q j) := fun j hj => by
          rw [tz_bit_and, tz_bit_not hj, Bool.and_eq_true, Bool.not_eq_true', ← hr j hj, Bool.not_eq_true]
        have cq : tz_cp (tz_bit c) q q := tz_cp_self (i5 q hq hb)
        have lq : tz_ld (tz_bit c) q := ⟨hq, i5 q hq hb, fun j hj h => by
          have := (cl j h).2
          rw [hl j hj] at this; cases this⟩
        refine hk (64 - (x3 + 1)).toNat _ _ _ m (by omega) ⟨rfl, by omega, by omega, rfl, fun j hj h => i5 j hj ((b2 j hj).mp h).1, fun i j hi hj h1 h2 h3 => ?_, ?_, ?_⟩
        · have h4 := (b2 i hi).mp h1
          exact (b2 j hj).mpr ⟨i6 i j hi hj h4.1 h2 h3, fun h5 => h4.2 (tz_cp_step h5 hj hi (by rw [tz_adj_sym]; exact h2) (i5 i hi h4.1))⟩
        · have h1 : tz_sz (fun k => (tz_ld (tz_bit c) k ∧ ¬ tz_bit x2 k = true) ∨ k = q) = tz_sz (fun k => tz_ld (tz_bit c) k ∧ ¬ tz_bit x2 k = true) + 1 := tz_sz_add (P := fun k => tz_ld (tz_bit c) k ∧ ¬ tz_bit x2 k = true) (fun h => h.2 hb) (fun k => Iff.rfl) (n := 64) hq
          rw [i7, ← h1]
          refine tz_sz_eq (fun j hj => ⟨fun h => ?_, fun h => ?_⟩)
          · rcases h with h | h
            · exact ⟨h.1, fun h2 => h.2 ((b2 j hj).mp h2).1⟩
            · rw [h]; exact ⟨lq, fun h2 => ((b2 q hq).mp h2).2 cq⟩
          · by_cases h2 : tz_bit x2 j = true
            · right
              have h3 : tz_cp (tz_bit c) q j := by
                apply Classical.byContradiction
                intro h3
                exact h.2 ((b2 j hj).mpr ⟨h2, h3⟩)
              by_cases h4 : j < q
              · rw [hl j h4] at h2; cases h2
              · by_cases h5 : q < j
                · exact absurd (tz_cp_symm hq h3) (h.1.2.2 q h5)
                · omega
            · exact Or.inl ⟨h.1, h2⟩
        · have h3 := tz_sz_less (P := fun k => tz_bit x2 k = true) (P2 := fun k => tz_bit (x2 &&& (r ^^^ (-1))) k = true) hq hb (fun h => ((b2 q hq).mp h).2 cq) (fun j hj h => ((b2 j hj).mp h).1)
          omega
/-- the groups of the cells before m -/
def tz_wm (wt : Nat → Bool) (m : Nat) (k : Nat) : Bool := wt k && decide (k < m)
def tz_GI (wt : Nat → Bool) (b m : Nat) (M : ts_M) : Prop := ∃ n : Nat, M.1 (b + 11) 2 = (n : Int) ∧ n ≤ m ∧ (∀ g : Nat, g < n → ∃ s : Nat, s < m ∧ s < 64 ∧ wt s = true ∧ ∀ k : Nat, k < 64 → (tz_bit (M.2.1 (b + 12) (g : Int)) k = true ↔ tz_cp (tz_wm wt m) s k)) ∧ ∀ s : Nat, s < m → s < 64 → wt s = true → ∃ g : Nat, g < n ∧ tz_bit (M.2.1 (b + 12) (g : Int)) s = true
/-- what joining the groups may change -/
def tz_FG (b : Nat) (M M' : ts_M) : Prop := (∀ (a : Nat) (j : Int), ¬ (a = b + 11 ∧ j = 2) → M'.1 a j = M.1 a j) ∧ (∀ a : Nat, a ≠ b + 12 → M'.2.1 a = M.2.1 a) ∧ M'.2.2 = M.2.2
theorem tz_and_nz {x y : Int64} : ¬ (x &&& y = 0) ↔ ∃ k : Nat, k < 64 ∧ tz_bit x k = true ∧ tz_bit y k = true := by
  rw [tz_bit_z]
  constructor
  · intro h
    apply Classical.byContradiction
    intro h2
    exact h (fun k hk => by
      cases h3 : tz_bit (x &&& y) k
      · rfl
      · rw [tz_bit_and, Bool.and_eq_true] at h3
        exact absurd ⟨k, hk, h3⟩ h2)
  · rintro ⟨k, hk, h1, h2⟩ h
    have := h k hk
    rw [tz_bit_and, h1, h2] at this; cases this
theorem tc_joinCell {p : Int64} {m : Nat} (hm : m < 64) (hp : ∀ k : Nat, k < 64 → tz_bit p k = decide (k = m)) (hw : wt m = true) (hG : tz_GI wt b m M) (hQ : ∀ M' : ts_M, tz_FG b M M' → tz_GI wt b (m + 1) M' → Qv M') : wX1_joinCell b p Qv M := by
  obtain ⟨n, hn, hnm, hA, hC⟩ := hG
  simp only [wX1_joinCell, wX1_neighbours, forall_eq]
  have hnear : ∀ k : Nat, k < 64 → tz_bit ((((ts_lshl p 8) ||| (ts_lushr p 8)) ||| (ts_lushr (p &&& (-72340172838076674)) 1)) ||| (ts_lshl (p &&& 9187201950435737471) 1)) k = tz_adj m k := fun k hk => tz_neigh hm hp hk
  generalize (((ts_lshl p 8) ||| (ts_lushr p 8)) ||| (ts_lushr (p &&& (-72340172838076674)) 1)) ||| (ts_lshl (p &&& 9187201950435737471) 1) = near at hnear ⊢
  -- the old groups
  generalize hold : (fun g : Nat => M.2.1 (b + 12) (g : Int)) = old
  have hold' : ∀ g : Nat, M.2.1 (b + 12) (g : Int) = old g := fun g => by rw [← hold]
  simp only [hold'] at hA hC
  have touch : ∀ g : Nat, (¬ (old g &&& near = 0) ↔ ∃ k : Nat, k < 64 ∧ tz_bit (old g) k = true ∧ tz_adj m k = true) := fun g => by
    rw [tz_and_nz]
    exact ⟨fun ⟨k, h1, h2, h3⟩ => ⟨k, h1, h2, by rw [← hnear k h1]; exact h3⟩, fun ⟨k, h1, h2, h3⟩ => ⟨k, h1, h2, by rw [hnear k h1]; exact h3⟩⟩
  refine tz_ex4 (fun d x1 x2 x3 x4 m' => ∃ q g : Nat, x1 = near ∧ x3 = (q : Int) ∧ x4 = (g : Int) ∧ q ≤ g ∧ g ≤ n ∧ d = n - g ∧ m'.1 = M.1 ∧ m'.2.2 = M.2.2 ∧ (∀ a : Nat, a ≠ b + 12 → m'.2.1 a = M.2.1 a) ∧ (∀ i : Nat, g ≤ i → i < n → m'.2.1 (b + 12) (i : Int) = old i) ∧ (∀ i : Nat, i < q → ∃ g2 : Nat, g2 < g ∧ m'.2.1 (b + 12) (i : Int) = old g2 ∧ old g2 &&& near = 0) ∧ (∀ g2 : Nat, g2 < g → old g2 &&& near = 0 → ∃ i : Nat, i < q ∧ m'.2.1 (b + 12) (i : Int) = old g2) ∧ (∀ k : Nat, k < 64 → (tz_bit x2 k = true ↔ k = m ∨ ∃ g2 : Nat, g2 < g ∧ ¬ (old g2 &&& near = 0) ∧ tz_bit (old g2) k = true))) n ⟨0, 0, rfl, rfl, rfl, Nat.le_refl 0, Nat.zero_le _, rfl, rfl, rfl, fun _ _ => rfl, fun i _ _ => hold' i, fun i hi => absurd hi (Nat.not_lt_zero _), fun g2 hg => absurd hg (Nat.not_lt_zero _), fun k hk => ?_⟩ ?_
  · rw [hp k hk, decide_eq_true_eq]
    exact ⟨fun h => Or.inl h, fun h => by
      rcases h with h | ⟨g2, hg, _⟩
      · exact h
      · exact absurd hg (Nat.not_lt_zero _)⟩
  · rintro k d x1 x2 x3 x4 m' ⟨q, g, rfl, rfl, rfl, i1, i2, i3, i4, i5, i6, i7, i8, i9, i10⟩ hk
    have e11 : m'.1 (b + 11) 2 = (n : Int) := by rw [i4]; exact hn
    simp only [wX1_joinCell_L14, wX1_joinCell_B94, wX1_joinCell_B69, forall_eq, e11]
    rw [tz_n (x := (n : Int)) (by omega) (by omega), tz_n (x := (g : Int)) (by omega) (by omega), tz_n (x := (q : Int)) (by omega) (by omega)]
    by_cases c1 : (n : Int) ≤ (g : Int)
    · have c2 : g = n := by omega
      subst c2
      rw [tz_y c1, tz_x (by omega), tz_p ⟨by omega, by omega⟩]
      have hq1 : ((q : Int) + 1) = ((q + 1 : Nat) : Int) := by omega
      have gq : ∀ i : Nat, i < q → (ts_si (ts_sl m' (b + 12) (q : Int) x2) (b + 11) 2 ((q : Int) + 1)).2.1 (b + 12) (i : Int) = m'.2.1 (b + 12) (i : Int) := fun i hi => by
        show (if b + 12 = b + 12 ∧ (i : Int) = (q : Int) then x2 else m'.2.1 (b + 12) (i : Int)) = _
        rw [if_neg (by omega)]
      have gqq : (ts_si (ts_sl m' (b + 12) (q : Int) x2) (b + 11) 2 ((q : Int) + 1)).2.1 (b + 12) (q : Int) = x2 := by
        show (if b + 12 = b + 12 ∧ (q : Int) = (q : Int) then x2 else m'.2.1 (b + 12) (q : Int)) = _
        rw [if_pos ⟨rfl, rfl⟩]
      refine hQ _ ⟨fun a j h => ?_, fun a h => ?_, i5⟩ ⟨q + 1, ?_, by omega, fun i hi => ?_, fun s hs1 hs2 hs3 => ?_⟩
      · show (if a = b + 11 ∧ j = 2 then (q : Int) + 1 else m'.1 a j) = _
        rw [if_neg h, i4]
      · show (ts_sl m' (b + 12) (q : Int) x2).2.1 a = _
        rw [ts_sl_ne h]; exact i6 a h
      · rw [tz_si_a]; exact hq1
      · by_cases c3 : i = q
        · subst c3
          refine ⟨m, by omega, hm, hw, fun k hk => ?_⟩
          rw [gqq, i10 k hk]
          have wmm : tz_wm wt (m + 1) m = true := by unfold tz_wm; rw [hw, decide_eq_true (by omega)]; rfl
          have up : ∀ j : Nat, j < 64 → tz_wm wt m j = true → tz_wm wt (m + 1) j = true := fun j _ h => by
            unfold tz_wm at h ⊢
            rw [Bool.and_eq_true, decide_eq_true_eq] at h
            rw [h.1, decide_eq_true (by omega)]; rfl
          constructor
          · intro h
            rcases h with h | ⟨g2, hg2, ht, hbk⟩
            · rw [h]; exact tz_cp_self wmm
            · obtain ⟨j, hj1, hj2, hj3⟩ := (touch g2).mp ht
              obtain ⟨s, s1, s2, s3, s4⟩ := hA g2 hg2
              have p1 := (s4 j hj1).mp hj2
              have p2 := (s4 k hk).mp hbk
              have p3 : tz_cp (tz_wm wt m) j k := (tz_cp_same s2 p1).mp p2
              exact tz_cp_trans (tz_cp_step (tz_cp_self wmm) hm hj1 hj3 (up j hj1 (tz_cp_wet p1))) (tz_cp_mono up hj1 p3)
          · intro h
            have h1 := h (fun k => k < 64 ∧ (k = m ∨ ∃ g2 : Nat, g2 < g ∧ ¬ (old g2 &&& x1 = 0) ∧ tz_bit (old g2) k = true)) (fun _ => ⟨hm, Or.inl rfl⟩) (fun i j hi hj h1 h2 h3 => ⟨hj, by
              by_cases c4 : j = m
              · exact Or.inl c4
              · right
                unfold tz_wm at h3
                rw [Bool.and_eq_true, decide_eq_true_eq] at h3
                have hjm : tz_wm wt m j = true := by unfold tz_wm; rw [h3.1, decide_eq_true (by omega)]; rfl
                rcases h1.2 with h4 | ⟨g2, hg2, ht, hbk⟩
                · obtain ⟨g2, hg2, hb2⟩ := hC j (by omega) hj h3.1
                  rw [h4] at h2
                  exact ⟨g2, hg2, (touch g2).mpr ⟨j, hj, hb2, h2⟩, hb2⟩
                · obtain ⟨s, s1, s2, s3, s4⟩ := hA g2 hg2
                  exact ⟨g2, hg2, ht, (s4 j hj).mpr (tz_cp_step ((s4 i hi).mp hbk) hi hj h2 hjm)⟩⟩)
            exact h1.2
        · obtain ⟨g2, hg2, he, hz⟩ := i8 i (by omega)
          obtain ⟨s, s1, s2, s3, s4⟩ := hA g2 hg2
          refine ⟨s, by omega, s2, s3, fun k hk => ?_⟩
          rw [gq i (by omega), he, s4 k hk]
          constructor
          · intro h
            exact tz_cp_mono (fun j _ h => by
              unfold tz_wm at h ⊢
              rw [Bool.and_eq_true, decide_eq_true_eq] at h
              rw [h.1, decide_eq_true (by omega)]; rfl) s2 h
          · intro h
            have h1 := h (fun k => k < 64 ∧ tz_cp (tz_wm wt m) s k) (fun _ => ⟨s2, tz_cp_self (by unfold tz_wm; rw [s3, decide_eq_true s1]; rfl)⟩) (fun i j hi hj h1 h2 h3 => ⟨hj, by
              unfold tz_wm at h3
              rw [Bool.and_eq_true, decide_eq_true_eq] at h3
              by_cases c4 : j = m
              · exfalso
                rw [c4] at h2
                exact (touch g2).mpr ⟨i, hi, (s4 i hi).mpr h1.2, by rw [tz_adj_sym]; exact h2⟩ hz
              · exact tz_cp_step h1.2 hi hj h2 (by unfold tz_wm; rw [h3.1, decide_eq_true (by omega)]; rfl)⟩)
            exact h1.2
      · by_cases c3 : s = m
        · exact ⟨q, by omega, by rw [gqq]; exact (i10 s hs2).mpr (Or.inl c3)⟩
        · obtain ⟨g2, hg2, hb2⟩ := hC s (by omega) hs2 hs3
          by_cases c4 : old g2 &&& x1 = 0
          · obtain ⟨i, hi, he⟩ := i9 g2 hg2 c4
            exact ⟨i, by omega, by rw [gq i hi, he]; exact hb2⟩
          · exact ⟨q, by omega, by rw [gqq]; exact (i10 s hs2).mpr (Or.inr ⟨g2, hg2, c4, hb2⟩)⟩
    · rw [tz_x c1, tz_p ⟨by omega, by omega⟩]
      have eg : m'.2.1 (b + 12) (g : Int) = old g := i7 g (Nat.le_refl _) (by omega)
      rw [eg]
      have hg1 : ((g : Int) + 1) = ((g + 1 : Nat) : Int) := by omega
      by_cases c2 : old g &&& x1 = 0
      · rw [tz_y c2, tz_p ⟨by omega, by omega⟩, tz_p ⟨by omega, by omega⟩]
        have hq1 : ((q : Int) + 1) = ((q + 1 : Nat) : Int) := by omega
        have gr : ∀ i : Nat, (ts_sl m' (b + 12) (q : Int) (old g)).2.1 (b + 12) (i : Int) = if i = q then old g else m'.2.1 (b + 12) (i : Int) := fun i => by
          show (if b + 12 = b + 12 ∧ (i : Int) = (q : Int) then old g else m'.2.1 (b + 12) (i : Int)) = _
          by_cases c3 : i = q
          · rw [if_pos c3, if_pos ⟨rfl, by omega⟩]
          · rw [if_neg c3, if_neg (by omega)]
        refine hk (n - (g + 1)) _ _ _ _ _ (by omega) ⟨q + 1, g + 1, rfl, hq1, hg1, by omega, by omega, rfl, i4, i5, fun a h => by rw [ts_sl_ne h]; exact i6 a h, fun i h1 h2 => ?_, fun i hi => ?_, fun g2 h1 h2 => ?_, fun k hk => ?_⟩
        · rw [gr, if_neg (by omega)]; exact i7 i (by omega) h2
        · rw [gr]
          by_cases c3 : i = q
          · rw [if_pos c3]; exact ⟨g, by omega, rfl, c2⟩
          · rw [if_neg c3]
            obtain ⟨g2, h1, h2, h3⟩ := i8 i (by omega)
            exact ⟨g2, by omega, h2, h3⟩
        · by_cases c3 : g2 = g
          · exact ⟨q, by omega, by rw [gr, if_pos rfl, c3]⟩
          · obtain ⟨i, hi, he⟩ := i9 g2 (by omega) h2
            exact ⟨i, by omega, by rw [gr, if_neg (by omega)]; exact he⟩
        · rw [i10 k hk]
          constructor
          · intro h
            rcases h with h | ⟨g2, h1, h2, h3⟩
            · exact Or.inl h
            · exact Or.inr ⟨g2, by omega, h2, h3⟩
          · intro h
            rcases h with h | ⟨g2, h1, h2, h3⟩
            · exact Or.inl h
            · by_cases c3 : g2 = g
              · rw [c3] at h2; exact absurd c2 h2
              · exact Or.inr ⟨g2, by omega, h2, h3⟩
      · rw [tz_x c2, tz_p ⟨by omega, by omega⟩]
        refine hk (n - (g + 1)) _ _ _ _ m' (by omega) ⟨q, g + 1, rfl, rfl, hg1, by omega, by omega, rfl, i4, i5, i6, fun i h1 h2 => i7 i (by omega) h2, fun i hi => ?_, fun g2 h1 h2 => ?_, fun k hk => ?_⟩
        · obtain ⟨g2, h1, h2, h3⟩ := i8 i hi
          exact ⟨g2, by omega, h2, h3⟩
        · by_cases c3 : g2 = g
          · rw [c3] at h2; exact absurd h2 c2
          · exact i9 g2 (by omega) h2
        · rw [tz_bit_or, Bool.or_eq_true, i10 k hk]
          constructor
          · intro h
            rcases h with (h | ⟨g2, h1, h2, h3⟩) | h
            · exact Or.inl h
            · exact Or.inr ⟨g2, by omega, h2, h3⟩
            · exact Or.inr ⟨g, by omega, c2, h⟩
          · intro h
            rcases h with h | ⟨g2, h1, h2, h3⟩
            · exact Or.inl (Or.inl h)
            · by_cases c3 : g2 = g
              · rw [c3] at h3; exact Or.inr h3
              · exact Or.inl (Or.inr ⟨g2, by omega, h2, h3⟩)
end TZQ
