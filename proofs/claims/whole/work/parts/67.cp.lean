/-! ===== puddles ===== -/
def tz_adj (i j : Nat) : Bool := (j == i + 8) || (i == j + 8) || (j == i + 1 && i % 8 != 7) || (i == j + 1 && j % 8 != 7)
def tz_cd (wt : Nat → Bool) (C : Nat → Prop) : Prop := ∀ i j : Nat, i < 64 → j < 64 → C i → tz_adj i j = true → wt j = true → C j
/-- the puddle of a cell -/
def tz_cp (wt : Nat → Bool) (s k : Nat) : Prop := ∀ C : Nat → Prop, (wt s = true → C s) → tz_cd wt C → C k
section TZP
variable {wt wt2 : Nat → Bool} {s i j k : Nat}
theorem tz_adj_sym : tz_adj i j = tz_adj j i := by
  unfold tz_adj
  rw [Bool.or_comm (j == i + 8) (i == j + 8), Bool.or_assoc, Bool.or_assoc, Bool.or_comm (j == i + 1 && i % 8 != 7), ← Bool.or_assoc, ← Bool.or_assoc]
theorem tz_cp_self (h : wt s = true) : tz_cp wt s s := fun _ h1 _ => h1 h
theorem tz_cp_step (h : tz_cp wt s i) (hi : i < 64) (hj : j < 64) (ha : tz_adj i j = true) (hw : wt j = true) : tz_cp wt s j := fun C h1 h2 => h2 i j hi hj (h C h1 h2) ha hw
theorem tz_cp_cd : tz_cd wt (tz_cp wt s) := fun _ _ h1 h2 h3 h4 h5 => tz_cp_step h3 h1 h2 h4 h5
theorem tz_cp_wet (h : tz_cp wt s k) : wt k = true := h (fun k => wt k = true) (fun h1 => h1) (fun _ _ _ _ _ _ h1 => h1)
theorem tz_cp_src (h : tz_cp wt s k) : wt s = true := h (fun _ => wt s = true) (fun h1 => h1) (fun _ _ _ _ h1 _ _ => h1)
theorem tz_cp_lt (hs : s < 64) (h : tz_cp wt s k) : k < 64 := h (fun k => k < 64) (fun _ => hs) (fun _ _ _ h1 _ _ _ => h1)
theorem tz_cp_trans (h1 : tz_cp wt s j) (h2 : tz_cp wt j k) : tz_cp wt s k := h2 (tz_cp wt s) (fun _ => h1) tz_cp_cd
theorem tz_cp_symm (hs : s < 64) (h : tz_cp wt s k) : tz_cp wt k s := by
  have h1 := h (fun k => k < 64 ∧ wt k = true ∧ tz_cp wt k s) (fun h2 => ⟨hs, h2, tz_cp_self h2⟩) (fun i j hi hj h2 ha hw => ⟨hj, hw, tz_cp_trans (tz_cp_step (tz_cp_self hw) hj hi (by rw [tz_adj_sym]; exact ha) h2.2.1) h2.2.2⟩)
  exact h1.2.2
theorem tz_cp_mono (hm : ∀ k : Nat, k < 64 → wt k = true → wt2 k = true) (hs : s < 64) (h : tz_cp wt s k) : tz_cp wt2 s k := fun C h1 h2 => by
  have h3 := h (fun k => C k) (fun h4 => h1 (hm s hs h4)) (fun i j hi hj h4 ha hw => h2 i j hi hj h4 ha (hm j hj hw))
  exact h3
theorem tz_cp_congr (hm : ∀ k : Nat, k < 64 → wt k = wt2 k) (hs : s < 64) : tz_cp wt s k ↔ tz_cp wt2 s k := ⟨tz_cp_mono (fun k h1 h2 => by rw [← hm k h1]; exact h2) hs, tz_cp_mono (fun k h1 h2 => by rw [hm k h1]; exact h2) hs⟩
/-- two cells of one puddle have the same -/
theorem tz_cp_same (hs : s < 64) (h : tz_cp wt s j) : tz_cp wt s k ↔ tz_cp wt j k := ⟨fun h1 => tz_cp_trans (tz_cp_symm hs h) h1, fun h1 => tz_cp_trans h h1⟩
/-- the number of cells of a set -/
noncomputable def tz_sz (P : Nat → Prop) : Int := tz_sum (fun k => @ite Int (P k.toNat) (Classical.propDecidable _) 1 0) 64
theorem tz_sz_bit {P : Nat → Prop} {r : Int64} (h : ∀ k : Nat, k < 64 → (tz_bit r k = true ↔ P k)) : tz_sum (fun k => tz_i (tz_bit r k.toNat)) 64 = tz_sz P := by
  refine tz_sum_eq (fun i h1 h2 => ?_)
  have h3 := h i.toNat (by omega)
  by_cases h4 : P i.toNat
  · rw [h3.mpr h4, if_pos h4]; rfl
  · have h5 : tz_bit r i.toNat = false := by
      cases h6 : tz_bit r i.toNat
      · rfl
      · exact absurd (h3.mp h6) h4
    rw [h5, if_neg h4]; rfl
theorem tz_sz_row {P : Nat → Prop} {f : Int → Int} (h : ∀ k : Nat, k < 64 → (f (k : Int) = 0 ∨ f (k : Int) = 1) ∧ (f (k : Int) = 1 ↔ P k)) : tz_sum f 64 = tz_sz P := by
  refine tz_sum_eq (fun i h1 h2 => ?_)
  have h3 := h i.toNat (by omega)
  rw [Int.toNat_of_nonneg h1] at h3
  by_cases h4 : P i.toNat
  · rw [if_pos h4]; exact h3.2.mpr h4
  · rw [if_neg h4]
    rcases h3.1 with h5 | h5
    · exact h5
    · exact absurd (h3.2.mp h5) h4
theorem tz_sz_eq {P P2 : Nat → Prop} (h : ∀ k : Nat, k < 64 → (P k ↔ P2 k)) : tz_sz P = tz_sz P2 := by
  refine tz_sum_eq (fun i h1 h2 => ?_)
  have h3 := h i.toNat (by omega)
  by_cases h4 : P i.toNat
  · rw [if_pos h4, if_pos (h3.mp h4)]
  · rw [if_neg h4, if_neg (fun h5 => h4 (h3.mpr h5))]
theorem tz_sz_rng {P : Nat → Prop} : 0 ≤ tz_sz P ∧ tz_sz P ≤ 64 := by
  have h1 := tz_sum_rng (f := fun k => @ite Int (P k.toNat) (Classical.propDecidable _) 1 0) (lo := 0) (up := 1) (n := 64) (fun i h1 h2 => by
    by_cases h3 : P i.toNat
    · show 0 ≤ @ite Int (P i.toNat) (Classical.propDecidable _) 1 0 ∧ _
      rw [if_pos h3]; omega
    · show 0 ≤ @ite Int (P i.toNat) (Classical.propDecidable _) 1 0 ∧ _
      rw [if_neg h3]; omega)
  unfold tz_sz; omega
theorem tz_sz_all {P : Nat → Prop} : ∀ {n : Nat}, tz_sum (fun k => @ite Int (P k.toNat) (Classical.propDecidable _) 1 0) n = (n : Int) → ∀ k : Nat, k < n → P k
  | 0, _, k, hk => by omega
  | n + 1, h, k, hk => by
    have e0 : ∀ m : Nat, tz_sum (fun k => @ite Int (P k.toNat) (Classical.propDecidable _) 1 0) m ≤ (m : Int) := fun m => by
      have h1 := tz_sum_rng (f := fun k => @ite Int (P k.toNat) (Classical.propDecidable _) 1 0) (lo := 0) (up := 1) (n := m) (fun i h1 h2 => by
        by_cases h3 : P i.toNat
        · show 0 ≤ @ite Int (P i.toNat) (Classical.propDecidable _) 1 0 ∧ _
          rw [if_pos h3]; omega
        · show 0 ≤ @ite Int (P i.toNat) (Classical.propDecidable _) 1 0 ∧ _
          rw [if_neg h3]; omega)
      omega
    have h2 : tz_sum (fun k => @ite Int (P k.toNat) (Classical.propDecidable _) 1 0) n + @ite Int (P ((n : Int).toNat)) (Classical.propDecidable _) 1 0 = ((n + 1 : Nat) : Int) := h
    have h3 := e0 n
    by_cases h4 : P ((n : Int).toNat)
    · rw [if_pos h4] at h2
      by_cases h5 : k = n
      · subst h5; exact h4
      · exact tz_sz_all (n := n) (by omega) k (by omega)
    · rw [if_neg h4] at h2; omega
/-- one cell more -/
theorem tz_sz_add {P P2 : Nat → Prop} {a : Nat} (ha : ¬ P a) (h2 : ∀ k : Nat, P2 k ↔ P k ∨ k = a) : ∀ {n : Nat}, a < n → tz_sum (fun k => @ite Int (P2 k.toNat) (Classical.propDecidable _) 1 0) n = tz_sum (fun k => @ite Int (P k.toNat) (Classical.propDecidable _) 1 0) n + 1
  | 0, h3 => by omega
  | n + 1, h3 => by
    show tz_sum (fun k => @ite Int (P2 k.toNat) (Classical.propDecidable _) 1 0) n + @ite Int (P2 ((n : Int).toNat)) (Classical.propDecidable _) 1 0 = tz_sum (fun k => @ite Int (P k.toNat) (Classical.propDecidable _) 1 0) n + @ite Int (P ((n : Int).toNat)) (Classical.propDecidable _) 1 0 + 1
    by_cases h4 : a = n
    · subst h4
      have e1 : tz_sum (fun k => @ite Int (P2 k.toNat) (Classical.propDecidable _) 1 0) a = tz_sum (fun k => @ite Int (P k.toNat) (Classical.propDecidable _) 1 0) a := tz_sum_eq (fun i h5 h6 => by
        by_cases h7 : P i.toNat
        · rw [if_pos h7, if_pos ((h2 _).mpr (Or.inl h7))]
        · rw [if_neg h7, if_neg (fun h8 => by
            rcases (h2 _).mp h8 with h9 | h9
            · exact h7 h9
            · omega)])
      have e2 : P2 ((a : Int).toNat) := by rw [Int.toNat_natCast]; exact (h2 a).mpr (Or.inr rfl)
      have e3 : ¬ P ((a : Int).toNat) := by rw [Int.toNat_natCast]; exact ha
      rw [e1, if_pos e2, if_neg e3]; omega
    · have ih := tz_sz_add ha h2 (n := n) (by omega)
      rw [ih]
      have e2 : P2 ((n : Int).toNat) ↔ P ((n : Int).toNat) := by
        rw [Int.toNat_natCast, h2 n]
        exact ⟨fun h => by
          rcases h with h | h
          · exact h
          · exact absurd h.symm h4, fun h => Or.inl h⟩
      by_cases h7 : P ((n : Int).toNat)
      · rw [if_pos h7, if_pos (e2.mpr h7)]
      · rw [if_neg h7, if_neg (fun h8 => h7 (e2.mp h8))]; omega
end TZP
section TZP2
variable {B : Int} {Q : Int → ts_M → Prop} {Ql : Int64 → ts_M → Prop} {Qv : ts_M → Prop} {M : ts_M} {b : Nat} {w : Int → Int}
/-- the lowest bit -/
theorem tz_low {x : Int64} (h : x ≠ 0) : ∃ a : Nat, a < 64 ∧ tz_bit x a = true ∧ (∀ j : Nat, j < a → tz_bit x j = false) ∧ ∀ k : Nat, k < 64 → tz_bit (x &&& (-x)) k = decide (k = a) := by
  have h1 : ∃ a : Nat, a < 64 ∧ tz_bit x a = true := by
    apply Classical.byContradiction
    intro h2
    exact h (tz_bit_z.mpr fun k hk => by
      cases h3 : tz_bit x k
      · rfl
      · exact absurd ⟨k, hk, h3⟩ h2)
  have h2 : ∃ a : Nat, a < 64 ∧ tz_bit x a = true ∧ ∀ j : Nat, j < a → tz_bit x j = false := by
    obtain ⟨a, ha, hb⟩ := h1
    induction a using Nat.strongRecOn with
    | _ a ih =>
      by_cases h3 : ∃ j : Nat, j < a ∧ tz_bit x j = true
      · obtain ⟨j, hj, hk⟩ := h3
        exact ih j hj (by omega) hk
      · exact ⟨a, ha, hb, fun j hj => by
          cases h4 : tz_bit x j
          · rfl
          · exact absurd ⟨j, hj, h4⟩ h3⟩
  obtain ⟨a, ha, hb, hc⟩ := h2
  refine ⟨a, ha, hb, hc, fun k hk => ?_⟩
  rw [tz_bit_and]
  have h5 : tz_bit (-x) k = (tz_bit x k ^^ (decide (k < 64) && decide (∃ j, j < k ∧ tz_bit x j = true))) := by
    unfold tz_bit
    rw [Int64.toBitVec_neg, BitVec.getLsbD_neg]
  rw [h5, decide_eq_true hk, Bool.true_and]
  by_cases h6 : k = a
  · subst h6
    have h7 : ¬ ∃ j, j < k ∧ tz_bit x j = true := by
      rintro ⟨j, hj, hk2⟩
      rw [hc j hj] at hk2; cases hk2
    rw [hb, decide_eq_false h7]; simp
  · rw [decide_eq_false h6]
    by_cases h7 : k < a
    · rw [hc k h7]; rfl
    · have h8 : ∃ j, j < k ∧ tz_bit x j = true := ⟨a, by omega, hb⟩
      rw [decide_eq_true h8]
      cases tz_bit x k <;> rfl
theorem tz_bit_nf : ∀ k : Fin 64, tz_bit (-72340172838076674) k.val = decide (k.val % 8 ≠ 0) := by decide +kernel
theorem tz_bit_nl : ∀ k : Fin 64, tz_bit 9187201950435737471 k.val = decide (k.val % 8 ≠ 7) := by decide +kernel
/-- the cells beside one cell -/
theorem tz_neigh {x : Int64} {a : Nat} (ha : a < 64) (hx : ∀ k : Nat, k < 64 → tz_bit x k = decide (k = a)) {k : Nat} (hk : k < 64) : tz_bit ((((ts_lshl x 8) ||| (ts_lushr x 8)) ||| (ts_lushr (x &&& (-72340172838076674)) 1)) ||| (ts_lshl (x &&& 9187201950435737471) 1)) k = tz_adj a k := by
  have hx2 : ∀ k : Nat, tz_bit x k = decide (k = a) := fun k => by
    by_cases h1 : k < 64
    · exact hx k h1
    · have h2 : tz_bit x k = false := by unfold tz_bit; exact BitVec.getLsbD_of_ge _ _ (by omega)
      rw [h2, decide_eq_false (by omega)]
  rw [tz_bit_or, tz_bit_or, tz_bit_or, show (8 : Int) = ((8 : Nat) : Int) by rfl, show (1 : Int) = ((1 : Nat) : Int) by rfl, tz_bit_shl (by decide) hk, tz_bit_shr (by decide), tz_bit_shr (by decide), tz_bit_shl (by decide) hk, tz_bit_and, tz_bit_and, hx2, hx2, hx2, hx2]
  unfold tz_adj
  have e1 : (decide (8 ≤ k) && decide (k - 8 = a)) = (k == a + 8) := by
    rw [Bool.eq_iff_iff, Bool.and_eq_true, decide_eq_true_eq, decide_eq_true_eq, beq_iff_eq]; omega
  have e2 : decide (8 + k = a) = (a == k + 8) := by
    rw [Bool.eq_iff_iff, decide_eq_true_eq, beq_iff_eq]; omega
  have e3 : (decide (1 + k = a) && tz_bit (-72340172838076674) (1 + k)) = (a == k + 1 && k % 8 != 7) := by
    by_cases h1 : 1 + k = a
    · have h2 := tz_bit_nf ⟨1 + k, by omega⟩
      rw [h2, decide_eq_true h1, Bool.true_and, show (a == k + 1) = true by rw [beq_iff_eq]; omega, Bool.true_and, Bool.eq_iff_iff, decide_eq_true_eq, bne_iff_ne]
      show (1 + k) % 8 ≠ 0 ↔ _
      omega
    · rw [decide_eq_false h1, Bool.false_and, show (a == k + 1) = false by rw [beq_eq_false_iff_ne]; omega, Bool.false_and]
  have e4 : (decide (1 ≤ k) && (decide (k - 1 = a) && tz_bit 9187201950435737471 (k - 1))) = (k == a + 1 && a % 8 != 7) := by
    by_cases h1 : 1 ≤ k ∧ k - 1 = a
    · have h2 := tz_bit_nl ⟨k - 1, by omega⟩
      rw [h2, decide_eq_true h1.1, decide_eq_true h1.2, Bool.true_and, Bool.true_and, show (k == a + 1) = true by rw [beq_iff_eq]; omega, Bool.true_and, Bool.eq_iff_iff, decide_eq_true_eq, bne_iff_ne]
      show (k - 1) % 8 ≠ 7 ↔ _
      omega
    · rw [show (k == a + 1) = false by rw [beq_eq_false_iff_ne]; omega, Bool.false_and]
      by_cases h2 : 1 ≤ k
      · rw [decide_eq_false (show ¬ (k - 1 = a) by omega), Bool.false_and, Bool.and_false]
      · rw [decide_eq_false h2, Bool.false_and]
  rw [e1, e2, e3, e4, Bool.or_assoc, Bool.or_comm (a == k + 1 && k % 8 != 7), ← Bool.or_assoc]
/-- the class's walk finds the puddle -/
theorem tc_walk {p : Int64} {a : Nat} (ha : a < 64) (hp : ∀ k : Nat, k < 64 → tz_bit p k = decide (k = a)) (hQ : ∀ r : Int64, (∀ k : Nat, k < 64 → (tz_bit r k = true ↔ tz_cp (tz_bit (M.2.1 (b + 11) 0)) a k)) → Ql r M) : wX1_walkFrom b p Ql M := by
  simp only [wX1_walkFrom, forall_eq]
  generalize hc : M.2.1 (b + 11) 0 = c
  rw [hc] at hQ
  refine tz_ex3 (fun d x1 x2 x3 m => m = M ∧ 0 ≤ x3 ∧ x3 ≤ 64 ∧ d = (64 - x3).toNat ∧ (∀ k : Nat, k < 64 → tz_bit x1 k = true → tz_cp (tz_bit c) a k) ∧ (∀ k : Nat, k < 64 → tz_bit x2 k = true → tz_cp (tz_bit c) a k) ∧ (∀ k : Nat, k < 64 → ¬ (tz_bit x1 k = true ∧ tz_bit x2 k = true)) ∧ (tz_bit c a = true → tz_bit x1 a = true ∨ tz_bit x2 a = true) ∧ (∀ i j : Nat, i < 64 → j < 64 → tz_bit x1 i = true → tz_adj i j = true → tz_bit c j = true → tz_bit x1 j = true ∨ tz_bit x2 j = true) ∧ tz_sz (fun k => tz_bit x1 k = true) = x3) 64 ⟨rfl, by omega, by omega, rfl, ?_, ?_, ?_, ?_, ?_, ?_⟩ ?_
  · intro k _ h; rw [tz_bit_0] at h; cases h
  · intro k hk h
    rw [tz_bit_and, hp k hk, Bool.and_eq_true, decide_eq_true_eq] at h
    obtain ⟨h1, h2⟩ := h
    subst h2
    exact tz_cp_self h1
  · intro k _ h; rw [tz_bit_0] at h; cases h.1
  · intro h
    right
    rw [tz_bit_and, hp a ha, h, decide_eq_true rfl]; rfl
  · intro i j _ _ h; rw [tz_bit_0] at h; cases h
  · have : tz_sz (fun k => tz_bit 0 k = true) = tz_sum (fun _ => 0) 64 := tz_sum_eq (fun i h1 h2 => if_neg (by show ¬ (tz_bit 0 i.toNat = true); rw [tz_bit_0]; decide))
    rw [this]; decide
  · rintro k d x1 x2 x3 m ⟨rfl, i2, i3, i4, i5, i6, i7, i8, i9, i10⟩ hk
    have fin : (∀ k : Nat, k < 64 → tz_bit x2 k = false) → Ql x1 m := fun h => hQ x1 (fun k hk => ⟨i5 k hk, fun h1 => by
      have h2 := h1 (fun k => k < 64 ∧ tz_bit x1 k = true) (fun h3 => ⟨ha, by
        rcases i8 h3 with h4 | h4
        · exact h4
        · rw [h a ha] at h4; cases h4⟩) (fun i j hi hj h3 h4 h5 => ⟨hj, by
        rcases i9 i j hi hj h3.2 h4 h5 with h6 | h6
        · exact h6
        · rw [h j hj] at h6; cases h6⟩)
      exact h2.2⟩)
    simp only [wX1_walkFrom_L13, wX1_walkFrom_B66, wX1_firstOf, wX1_neighbours, forall_eq]
    rw [tz_n (x := x3) (by omega) (by omega), hc]
    by_cases c1 : 64 ≤ x3
    · rw [tz_y c1]
      have c2 : x3 = 64 := by omega
      refine fin (fun k hk => ?_)
      have h1 := tz_sz_all (P := fun k => tz_bit x1 k = true) (n := 64) (by rw [c2] at i10; exact i10) k hk
      cases h2 : tz_bit x2 k
      · rfl
      · exact absurd ⟨h1, h2⟩ (i7 k hk)
    · rw [tz_x c1]
      by_cases c2 : x2 = 0
      · rw [tz_y c2]
        exact fin (fun k hk => by rw [c2, tz_bit_0])
      · rw [tz_x c2]
        obtain ⟨q, hq, hb, hl, he⟩ := tz_low c2
        have hq1 : tz_bit x1 q = false := by
          cases h2 : tz_bit x1 q
          · rfl
          · exact absurd ⟨h2, hb⟩ (i7 q hq)
        have b1 : ∀ j : Nat, j < 64 → (tz_bit (x1 ||| (x2 &&& -x2)) j = true ↔ tz_bit x1 j = true ∨ j = q) := fun j hj => by
          rw [tz_bit_or, he j hj, Bool.or_eq_true, decide_eq_true_eq]
        have b2 : ∀ j : Nat, j < 64 → (tz_bit (((x2 ||| ((((ts_lshl (x2 &&& -x2) 8) ||| (ts_lushr (x2 &&& -x2) 8)) ||| (ts_lushr ((x2 &&& -x2) &&& (-72340172838076674)) 1)) ||| (ts_lshl ((x2 &&& -x2) &&& 9187201950435737471) 1))) &&& c) &&& ((x1 ||| (x2 &&& -x2)) ^^^ (-1))) j = true ↔ (tz_bit x2 j = true ∨ tz_adj q j = true) ∧ tz_bit c j = true ∧ ¬ (tz_bit x1 j = true ∨ j = q)) := fun j hj => by
          rw [tz_bit_and, tz_bit_and, tz_bit_or, tz_neigh hq he hj, tz_bit_not hj, Bool.and_eq_true, Bool.and_eq_true, Bool.or_eq_true, Bool.not_eq_true', and_assoc]
          have := b1 j hj
          constructor
          · rintro ⟨h1, h2, h3⟩
            exact ⟨h1, h2, fun h4 => by rw [this.mpr h4] at h3; cases h3⟩
          · rintro ⟨h1, h2, h3⟩
            refine ⟨h1, h2, ?_⟩
            cases h4 : tz_bit (x1 ||| (x2 &&& -x2)) j
            · rfl
            · exact absurd (this.mp h4) h3
        have cq := i6 q hq hb
        have cw : ∀ j : Nat, j < 64 → tz_bit x2 j = true → tz_bit c j = true := fun j hj h => tz_cp_wet (i6 j hj h)
        refine hk (64 - (x3 + 1)).toNat _ _ _ m (by omega) ⟨rfl, by omega, by omega, rfl, fun j hj h => ?_, fun j hj h => ?_, fun j hj h => ?_, fun h => ?_, fun i j hi hj h1 h2 h3 => ?_, ?_⟩
        · rcases (b1 j hj).mp h with h1 | h1
          · exact i5 j hj h1
          · rw [h1]; exact cq
        · have h1 := (b2 j hj).mp h
          rcases h1.1 with h2 | h2
          · exact i6 j hj h2
          · exact tz_cp_step cq hq hj h2 h1.2.1
        · exact ((b2 j hj).mp h.2).2.2 ((b1 j hj).mp h.1)
        · by_cases h1 : tz_bit x1 a = true ∨ a = q
          · exact Or.inl ((b1 a ha).mpr h1)
          · rcases i8 h with h2 | h2
            · exact absurd (Or.inl h2) h1
            · exact Or.inr ((b2 a ha).mpr ⟨Or.inl h2, h, h1⟩)
        · by_cases h4 : tz_bit x1 j = true ∨ j = q
          · exact Or.inl ((b1 j hj).mpr h4)
          · refine Or.inr ((b2 j hj).mpr ⟨?_, h3, h4⟩)
            rcases (b1 i hi).mp h1 with h5 | h5
            · rcases i9 i j hi hj h5 h2 h3 with h6 | h6
              · exact absurd (Or.inl h6) h4
              · exact Or.inl h6
            · rw [h5] at h2; exact Or.inr h2
        · have h1 := tz_sz_add (P := fun k => tz_bit x1 k = true) (P2 := fun k => tz_bit x1 k = true ∨ k = q) (a := q) (by rw [hq1]; decide) (fun k => Iff.rfl) (n := 64) hq
          have h2 : tz_sz (fun k => tz_bit (x1 ||| (x2 &&& -x2)) k = true) = tz_sz (fun k => tz_bit x1 k = true ∨ k = q) := tz_sz_eq b1
          rw [h2, ← i10]
          exact h1
end TZP2
