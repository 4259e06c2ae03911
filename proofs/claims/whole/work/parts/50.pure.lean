/-! ===== the pure layer: rules for loops, numbers, frames ===== -/
theorem tz_lp0 {F : (ts_M → Prop) → ts_M → Prop} (I : Nat → ts_M → Prop) (hs : ∀ (k : ts_M → Prop) (d : Nat) (M : ts_M), I d M → (∀ (e : Nat) (M' : ts_M), e < d → I e M' → k M') → F k M) : ∀ (n d : Nat), d < n → ∀ (M : ts_M), I d M → ts_lp0 F n M
  | 0, _, h1, _, _ => absurd h1 (Nat.not_lt_zero _)
  | n + 1, d, h1, M, h2 => hs _ d M h2 (fun e M' h3 h4 => tz_lp0 I hs n e (by omega) M' h4)
theorem tz_lp1 {A1 : Type} {F : (A1 → ts_M → Prop) → A1 → ts_M → Prop} (I : Nat → A1 → ts_M → Prop) (hs : ∀ (k : A1 → ts_M → Prop) (d : Nat) (x1 : A1) (M : ts_M), I d x1 M → (∀ (e : Nat) (y1 : A1) (M' : ts_M), e < d → I e y1 M' → k y1 M') → F k x1 M) : ∀ (n d : Nat), d < n → ∀ (x1 : A1) (M : ts_M), I d x1 M → ts_lp1 F n x1 M
  | 0, _, h1, _, _, _ => absurd h1 (Nat.not_lt_zero _)
  | n + 1, d, h1, x1, M, h2 => hs _ d x1 M h2 (fun e y1 M' h3 h4 => tz_lp1 I hs n e (by omega) y1 M' h4)
theorem tz_lp2 {A1 A2 : Type} {F : (A1 → A2 → ts_M → Prop) → A1 → A2 → ts_M → Prop} (I : Nat → A1 → A2 → ts_M → Prop) (hs : ∀ (k : A1 → A2 → ts_M → Prop) (d : Nat) (x1 : A1) (x2 : A2) (M : ts_M), I d x1 x2 M → (∀ (e : Nat) (y1 : A1) (y2 : A2) (M' : ts_M), e < d → I e y1 y2 M' → k y1 y2 M') → F k x1 x2 M) : ∀ (n d : Nat), d < n → ∀ (x1 : A1) (x2 : A2) (M : ts_M), I d x1 x2 M → ts_lp2 F n x1 x2 M
  | 0, _, h1, _, _, _, _ => absurd h1 (Nat.not_lt_zero _)
  | n + 1, d, h1, x1, x2, M, h2 => hs _ d x1 x2 M h2 (fun e y1 y2 M' h3 h4 => tz_lp2 I hs n e (by omega) y1 y2 M' h4)
theorem tz_lp3 {A1 A2 A3 : Type} {F : (A1 → A2 → A3 → ts_M → Prop) → A1 → A2 → A3 → ts_M → Prop} (I : Nat → A1 → A2 → A3 → ts_M → Prop) (hs : ∀ (k : A1 → A2 → A3 → ts_M → Prop) (d : Nat) (x1 : A1) (x2 : A2) (x3 : A3) (M : ts_M), I d x1 x2 x3 M → (∀ (e : Nat) (y1 : A1) (y2 : A2) (y3 : A3) (M' : ts_M), e < d → I e y1 y2 y3 M' → k y1 y2 y3 M') → F k x1 x2 x3 M) : ∀ (n d : Nat), d < n → ∀ (x1 : A1) (x2 : A2) (x3 : A3) (M : ts_M), I d x1 x2 x3 M → ts_lp3 F n x1 x2 x3 M
  | 0, _, h1, _, _, _, _, _ => absurd h1 (Nat.not_lt_zero _)
  | n + 1, d, h1, x1, x2, x3, M, h2 => hs _ d x1 x2 x3 M h2 (fun e y1 y2 y3 M' h3 h4 => tz_lp3 I hs n e (by omega) y1 y2 y3 M' h4)
theorem tz_lp4 {A1 A2 A3 A4 : Type} {F : (A1 → A2 → A3 → A4 → ts_M → Prop) → A1 → A2 → A3 → A4 → ts_M → Prop} (I : Nat → A1 → A2 → A3 → A4 → ts_M → Prop) (hs : ∀ (k : A1 → A2 → A3 → A4 → ts_M → Prop) (d : Nat) (x1 : A1) (x2 : A2) (x3 : A3) (x4 : A4) (M : ts_M), I d x1 x2 x3 x4 M → (∀ (e : Nat) (y1 : A1) (y2 : A2) (y3 : A3) (y4 : A4) (M' : ts_M), e < d → I e y1 y2 y3 y4 M' → k y1 y2 y3 y4 M') → F k x1 x2 x3 x4 M) : ∀ (n d : Nat), d < n → ∀ (x1 : A1) (x2 : A2) (x3 : A3) (x4 : A4) (M : ts_M), I d x1 x2 x3 x4 M → ts_lp4 F n x1 x2 x3 x4 M
  | 0, _, h1, _, _, _, _, _, _ => absurd h1 (Nat.not_lt_zero _)
  | n + 1, d, h1, x1, x2, x3, x4, M, h2 => hs _ d x1 x2 x3 x4 M h2 (fun e y1 y2 y3 y4 M' h3 h4 => tz_lp4 I hs n e (by omega) y1 y2 y3 y4 M' h4)
theorem tz_lp5 {A1 A2 A3 A4 A5 : Type} {F : (A1 → A2 → A3 → A4 → A5 → ts_M → Prop) → A1 → A2 → A3 → A4 → A5 → ts_M → Prop} (I : Nat → A1 → A2 → A3 → A4 → A5 → ts_M → Prop) (hs : ∀ (k : A1 → A2 → A3 → A4 → A5 → ts_M → Prop) (d : Nat) (x1 : A1) (x2 : A2) (x3 : A3) (x4 : A4) (x5 : A5) (M : ts_M), I d x1 x2 x3 x4 x5 M → (∀ (e : Nat) (y1 : A1) (y2 : A2) (y3 : A3) (y4 : A4) (y5 : A5) (M' : ts_M), e < d → I e y1 y2 y3 y4 y5 M' → k y1 y2 y3 y4 y5 M') → F k x1 x2 x3 x4 x5 M) : ∀ (n d : Nat), d < n → ∀ (x1 : A1) (x2 : A2) (x3 : A3) (x4 : A4) (x5 : A5) (M : ts_M), I d x1 x2 x3 x4 x5 M → ts_lp5 F n x1 x2 x3 x4 x5 M
  | 0, _, h1, _, _, _, _, _, _, _ => absurd h1 (Nat.not_lt_zero _)
  | n + 1, d, h1, x1, x2, x3, x4, x5, M, h2 => hs _ d x1 x2 x3 x4 x5 M h2 (fun e y1 y2 y3 y4 y5 M' h3 h4 => tz_lp5 I hs n e (by omega) y1 y2 y3 y4 y5 M' h4)
theorem tz_ex1 {A1 : Type} {F : (A1 → ts_M → Prop) → A1 → ts_M → Prop} (I : Nat → A1 → ts_M → Prop) (d : Nat) {x1 : A1} {M : ts_M} (h0 : I d x1 M) (hs : ∀ (k : A1 → ts_M → Prop) (d : Nat) (x1 : A1) (M : ts_M), I d x1 M → (∀ (e : Nat) (y1 : A1) (M' : ts_M), e < d → I e y1 M' → k y1 M') → F k x1 M) : ∃ n, ts_lp1 F n x1 M := ⟨d + 1, tz_lp1 I hs (d + 1) d (Nat.lt_succ_self d) x1 M h0⟩
theorem tz_ex2 {A1 A2 : Type} {F : (A1 → A2 → ts_M → Prop) → A1 → A2 → ts_M → Prop} (I : Nat → A1 → A2 → ts_M → Prop) (d : Nat) {x1 : A1} {x2 : A2} {M : ts_M} (h0 : I d x1 x2 M) (hs : ∀ (k : A1 → A2 → ts_M → Prop) (d : Nat) (x1 : A1) (x2 : A2) (M : ts_M), I d x1 x2 M → (∀ (e : Nat) (y1 : A1) (y2 : A2) (M' : ts_M), e < d → I e y1 y2 M' → k y1 y2 M') → F k x1 x2 M) : ∃ n, ts_lp2 F n x1 x2 M := ⟨d + 1, tz_lp2 I hs (d + 1) d (Nat.lt_succ_self d) x1 x2 M h0⟩
theorem tz_ex3 {A1 A2 A3 : Type} {F : (A1 → A2 → A3 → ts_M → Prop) → A1 → A2 → A3 → ts_M → Prop} (I : Nat → A1 → A2 → A3 → ts_M → Prop) (d : Nat) {x1 : A1} {x2 : A2} {x3 : A3} {M : ts_M} (h0 : I d x1 x2 x3 M) (hs : ∀ (k : A1 → A2 → A3 → ts_M → Prop) (d : Nat) (x1 : A1) (x2 : A2) (x3 : A3) (M : ts_M), I d x1 x2 x3 M → (∀ (e : Nat) (y1 : A1) (y2 : A2) (y3 : A3) (M' : ts_M), e < d → I e y1 y2 y3 M' → k y1 y2 y3 M') → F k x1 x2 x3 M) : ∃ n, ts_lp3 F n x1 x2 x3 M := ⟨d + 1, tz_lp3 I hs (d + 1) d (Nat.lt_succ_self d) x1 x2 x3 M h0⟩
theorem tz_ex4 {A1 A2 A3 A4 : Type} {F : (A1 → A2 → A3 → A4 → ts_M → Prop) → A1 → A2 → A3 → A4 → ts_M → Prop} (I : Nat → A1 → A2 → A3 → A4 → ts_M → Prop) (d : Nat) {x1 : A1} {x2 : A2} {x3 : A3} {x4 : A4} {M : ts_M} (h0 : I d x1 x2 x3 x4 M) (hs : ∀ (k : A1 → A2 → A3 → A4 → ts_M → Prop) (d : Nat) (x1 : A1) (x2 : A2) (x3 : A3) (x4 : A4) (M : ts_M), I d x1 x2 x3 x4 M → (∀ (e : Nat) (y1 : A1) (y2 : A2) (y3 : A3) (y4 : A4) (M' : ts_M), e < d → I e y1 y2 y3 y4 M' → k y1 y2 y3 y4 M') → F k x1 x2 x3 x4 M) : ∃ n, ts_lp4 F n x1 x2 x3 x4 M := ⟨d + 1, tz_lp4 I hs (d + 1) d (Nat.lt_succ_self d) x1 x2 x3 x4 M h0⟩
theorem tz_ex5 {A1 A2 A3 A4 A5 : Type} {F : (A1 → A2 → A3 → A4 → A5 → ts_M → Prop) → A1 → A2 → A3 → A4 → A5 → ts_M → Prop} (I : Nat → A1 → A2 → A3 → A4 → A5 → ts_M → Prop) (d : Nat) {x1 : A1} {x2 : A2} {x3 : A3} {x4 : A4} {x5 : A5} {M : ts_M} (h0 : I d x1 x2 x3 x4 x5 M) (hs : ∀ (k : A1 → A2 → A3 → A4 → A5 → ts_M → Prop) (d : Nat) (x1 : A1) (x2 : A2) (x3 : A3) (x4 : A4) (x5 : A5) (M : ts_M), I d x1 x2 x3 x4 x5 M → (∀ (e : Nat) (y1 : A1) (y2 : A2) (y3 : A3) (y4 : A4) (y5 : A5) (M' : ts_M), e < d → I e y1 y2 y3 y4 y5 M' → k y1 y2 y3 y4 y5 M') → F k x1 x2 x3 x4 x5 M) : ∃ n, ts_lp5 F n x1 x2 x3 x4 x5 M := ⟨d + 1, tz_lp5 I hs (d + 1) d (Nat.lt_succ_self d) x1 x2 x3 x4 x5 M h0⟩
/-- small numbers stand for themselves -/
theorem tz_n {x : Int} (h1 : -2000000000 ≤ x) (h2 : x ≤ 2000000000) : ts_w x = x := ts_w_eq (by omega) (by omega)
theorem tz_n0 : ts_w 0 = 0 := rfl
theorem tz_n1 : ts_w 1 = 1 := rfl
theorem tz_n2 : ts_w 2 = 2 := rfl
theorem tz_n3 : ts_w 3 = 3 := rfl
theorem tz_n4 : ts_w 4 = 4 := rfl
theorem tz_n5 : ts_w 5 = 5 := rfl
theorem tz_n6 : ts_w 6 = 6 := rfl
theorem tz_nm : ts_w (-1) = -1 := rfl
/-- a condition's number -/
def tz_b (c : Prop) [Decidable c] : Int := if c then 1 else 0
theorem tz_b1 {c : Prop} [Decidable c] (h1 : c) : tz_b c = 1 := if_pos h1
theorem tz_b0 {c : Prop} [Decidable c] (h1 : ¬ c) : tz_b c = 0 := if_neg h1
theorem tz_bw {c : Prop} [Decidable c] : ts_w (tz_b c) = tz_b c := by unfold tz_b; split <;> rfl
theorem tz_bo {c : Prop} [Decidable c] : tz_b c = 0 ∨ tz_b c = 1 := by unfold tz_b; split <;> simp
theorem tz_be {c : Prop} [Decidable c] : (tz_b c = 0) = ¬ c := by unfold tz_b; split <;> simp [*]
theorem tz_bf {c : Prop} [Decidable c] : (tz_b c = 1) = c := by unfold tz_b; split <;> simp [*]
theorem tz_and {c a b : Prop} [Decidable c] (h1 : c → a) (h2 : ¬ c → b) : (c → a) ∧ (¬ c → b) := ⟨h1, h2⟩
/-- the sum of the first n of a row -/
def tz_sum (f : Int → Int) : Nat → Int
  | 0 => 0
  | n + 1 => tz_sum f n + f (n : Int)
theorem tz_sum_rng {f : Int → Int} {lo up : Int} : ∀ {n : Nat}, (∀ i : Int, 0 ≤ i → i < (n : Int) → lo ≤ f i ∧ f i ≤ up) → (n : Int) * lo ≤ tz_sum f n ∧ tz_sum f n ≤ (n : Int) * up
  | 0, _ => by simp [tz_sum]
  | n + 1, h1 => by
    have h2 := tz_sum_rng (n := n) (fun i h3 h4 => h1 i h3 (by omega))
    have h3 := h1 (n : Int) (by omega) (by omega)
    have h4 : ((n + 1 : Nat) : Int) * lo = (n : Int) * lo + lo := by rw [Int.natCast_add, Int.add_mul]; simp
    have h5 : ((n + 1 : Nat) : Int) * up = (n : Int) * up + up := by rw [Int.natCast_add, Int.add_mul]; simp
    show _ ≤ tz_sum f n + f (n : Int) ∧ tz_sum f n + f (n : Int) ≤ _
    omega
theorem tz_sum_eq {f g : Int → Int} : ∀ {n : Nat}, (∀ i : Int, 0 ≤ i → i < (n : Int) → f i = g i) → tz_sum f n = tz_sum g n
  | 0, _ => rfl
  | n + 1, h1 => by
    show tz_sum f n + f (n : Int) = tz_sum g n + g (n : Int)
    rw [tz_sum_eq (n := n) (fun i h3 h4 => h1 i h3 (by omega)), h1 (n : Int) (by omega) (by omega)]
theorem tz_sum_upd {f : Int → Int} {k v : Int} : ∀ {n : Nat}, 0 ≤ k → k < (n : Int) → tz_sum (ts_fu f k v) n = tz_sum f n - f k + v
  | 0, h1, h2 => by omega
  | n + 1, h1, h2 => by
    show tz_sum (ts_fu f k v) n + ts_fu f k v (n : Int) = tz_sum f n + f (n : Int) - f k + v
    by_cases h3 : k = (n : Int)
    · subst h3
      rw [tz_sum_eq (g := f) (fun i h4 h5 => by simp [ts_fu]; omega)]
      simp [ts_fu]
    · rw [tz_sum_upd (n := n) h1 (by omega)]
      have h4 : ts_fu f k v (n : Int) = f (n : Int) := by simp [ts_fu]; omega
      rw [h4]; omega
/-- the first place from k on, below c, where f answers v; -1 if none -/
def tz_find (c : Int) (f : Int → Int) (v : Int) : Nat → Int → Int
  | 0, _ => -1
  | n + 1, k => if c ≤ k then -1 else if f k = v then k else tz_find c f v n (k + 1)
theorem tz_find_rng {c : Int} {f : Int → Int} {v : Int} : ∀ {n : Nat} {k : Int}, 0 ≤ k → tz_find c f v n k = -1 ∨ (k ≤ tz_find c f v n k ∧ tz_find c f v n k < c ∧ f (tz_find c f v n k) = v)
  | 0, _, _ => Or.inl rfl
  | n + 1, k, h1 => by
    unfold tz_find
    split
    · exact Or.inl rfl
    · split
      · exact Or.inr ⟨Int.le_refl _, by omega, by assumption⟩
      · rcases tz_find_rng (n := n) (c := c) (f := f) (v := v) (k := k + 1) (by omega) with h2 | h2
        · exact Or.inl h2
        · exact Or.inr ⟨by omega, h2.2⟩
theorem tz_find_none {c : Int} {f : Int → Int} {v : Int} : ∀ {n : Nat} {k : Int}, c ≤ k + (n : Int) → tz_find c f v n k = -1 → 0 ≤ k → ∀ i : Int, k ≤ i → i < c → f i ≠ v
  | 0, k, h1, _, _ => fun i h4 h5 => absurd h5 (by omega)
  | n + 1, k, h1, h2, h3 => by
    intro i h4 h5
    unfold tz_find at h2
    rw [if_neg (by omega)] at h2
    by_cases h6 : f k = v
    · rw [if_pos h6] at h2; omega
    · rw [if_neg h6] at h2
      by_cases h7 : i = k
      · rw [h7]; exact h6
      · exact tz_find_none (n := n) (k := k + 1) (by omega) h2 (by omega) i (by omega) h5
theorem tz_find_eq {c : Int} {f g : Int → Int} {v : Int} : ∀ {n : Nat} {k : Int}, 0 ≤ k → (∀ i : Int, 0 ≤ i → i < c → f i = g i) → tz_find c f v n k = tz_find c g v n k
  | 0, _, _, _ => rfl
  | n + 1, k, h1, h2 => by
    unfold tz_find
    split
    · rfl
    · rw [h2 k h1 (by omega), tz_find_eq (n := n) (k := k + 1) (by omega) h2]
/-- the last of several at one value: the first, where no other has it -/
theorem tz_find_at {c : Int} {f : Int → Int} {v : Int} : ∀ {n : Nat} {k i : Int}, c ≤ k + (n : Int) → 0 ≤ k → k ≤ i → i < c → f i = v → (∀ j : Int, k ≤ j → j < i → f j ≠ v) → tz_find c f v n k = i
  | 0, k, i, h1, _, h3, h4, _, _ => by omega
  | n + 1, k, i, h1, h2, h3, h4, h5, h6 => by
    unfold tz_find
    rw [if_neg (by omega)]
    by_cases h7 : k = i
    · subst h7; rw [if_pos h5]
    · rw [if_neg (h6 k (Int.le_refl _) (by omega))]
      exact tz_find_at (n := n) (k := k + 1) (by omega) (by omega) (by omega) h4 h5 (fun j h8 h9 => h6 j (by omega) h9)
theorem tz_rem {x y : Int} (h1 : 0 ≤ x) (h2 : x ≤ 2000000000) (h3 : 0 < y) (h4 : y ≤ 2000000000) : ts_rem x y = x % y := by
  have e1 : (ts_I x).toInt = x := Int32.toInt_ofInt_of_le (by omega) (by omega)
  have e2 : (ts_I y).toInt = y := Int32.toInt_ofInt_of_le (by omega) (by omega)
  have e3 : (ts_I x / ts_I y).toInt = x / y := by
    rw [Int32.toInt_div_of_ne_left _ _ (by intro h5; rw [h5] at e1; have : Int32.minValue.toInt = -2147483648 := rfl; omega), e1, e2, Int.tdiv_eq_ediv_of_nonneg h1]
  have e4 : 0 ≤ x / y := Int.ediv_nonneg h1 (by omega)
  have e5 : x / y * y + x % y = x := by rw [Int.mul_comm]; exact Int.mul_ediv_add_emod x y
  have e6 : 0 ≤ x % y := Int.emod_nonneg _ (by omega)
  have e7 : x % y < y := Int.emod_lt_of_pos _ h3
  show (ts_I x - ts_I x / ts_I y * ts_I y).toInt = _
  rw [Int32.toInt_sub, Int32.toInt_mul, e1, e2, e3]
  have e8 : (x / y * y).bmod (2 ^ 32) = x / y * y := by rw [Int.bmod_eq_of_le] <;> omega
  rw [e8, Int.bmod_eq_of_le] <;> omega
theorem tz_div {x y : Int} (h1 : 0 ≤ x) (h2 : x ≤ 2000000000) (h3 : 0 < y) (h4 : y ≤ 2000000000) : ts_div x y = x / y := by
  have e1 : (ts_I x).toInt = x := Int32.toInt_ofInt_of_le (by omega) (by omega)
  have e2 : (ts_I y).toInt = y := Int32.toInt_ofInt_of_le (by omega) (by omega)
  show (ts_I x / ts_I y).toInt = _
  rw [Int32.toInt_div_of_ne_left _ _ (by intro h5; rw [h5] at e1; have : Int32.minValue.toInt = -2147483648 := rfl; omega), e1, e2, Int.tdiv_eq_ediv_of_nonneg h1]
theorem tz_si {M : ts_M} {a : Nat} {k v : Int} {b : Nat} {j : Int} : (ts_si M a k v).1 b j = if b = a ∧ j = k then v else M.1 b j := rfl
theorem tz_si2 {M : ts_M} {a : Nat} {k v : Int} : (ts_si M a k v).2 = M.2 := rfl
theorem tz_sl {M : ts_M} {a : Nat} {k : Int} {v : Int64} {b : Nat} {j : Int} : (ts_sl M a k v).2.1 b j = if b = a ∧ j = k then v else M.2.1 b j := rfl
theorem tz_sl1 {M : ts_M} {a : Nat} {k : Int} {v : Int64} : (ts_sl M a k v).1 = M.1 := rfl
theorem tz_sl2 {M : ts_M} {a : Nat} {k : Int} {v : Int64} : (ts_sl M a k v).2.2 = M.2.2 := rfl
/-- loops that end in one way: an equivalence -/
theorem tz_it1 {A1 : Type} {F : (A1 → ts_M → Prop) → A1 → ts_M → Prop} {R : Prop} (I : Nat → A1 → ts_M → Prop) (hs : ∀ (d : Nat) (x1 : A1) (M : ts_M), I d x1 M → (∀ k : A1 → ts_M → Prop, F k x1 M ↔ R) ∨ ∃ (e : Nat) (y1 : A1) (M' : ts_M), e < d ∧ I e y1 M' ∧ ∀ k : A1 → ts_M → Prop, F k x1 M ↔ k y1 M') (d : Nat) {x1 : A1} {M : ts_M} (h0 : I d x1 M) : (∃ n, ts_lp1 F n x1 M) ↔ R := by
  have h1 : ∀ (n d : Nat) (x1 : A1) (M : ts_M), I d x1 M → ts_lp1 F n x1 M → R := by
    intro n
    induction n with
    | zero => intro _ _ _ _ h2; exact h2.elim
    | succ n ihn =>
      intro d x1 M h2 h3
      rcases hs d x1 M h2 with h4 | ⟨e, y1, M', h5, h6, h7⟩
      · exact (h4 _).mp h3
      · exact ihn e y1 M' h6 ((h7 _).mp h3)
  have h2 : ∀ (n d : Nat), d < n → ∀ (x1 : A1) (M : ts_M), I d x1 M → R → ∃ n, ts_lp1 F n x1 M := by
    intro n
    induction n with
    | zero => intro d h3; exact absurd h3 (Nat.not_lt_zero _)
    | succ n ihn =>
      intro d h3 x1 M h4 h5
      rcases hs d x1 M h4 with h6 | ⟨e, y1, M', h7, h8, h9⟩
      · exact ⟨1, (h6 _).mpr h5⟩
      · obtain ⟨j, hj⟩ := ihn e (by omega) y1 M' h8 h5
        exact ⟨j + 1, (h9 _).mpr hj⟩
  exact ⟨fun ⟨n, hn⟩ => h1 n d x1 M h0 hn, fun hr => h2 (d + 1) d (Nat.lt_succ_self d) x1 M h0 hr⟩
theorem tz_it2 {A1 A2 : Type} {F : (A1 → A2 → ts_M → Prop) → A1 → A2 → ts_M → Prop} {R : Prop} (I : Nat → A1 → A2 → ts_M → Prop) (hs : ∀ (d : Nat) (x1 : A1) (x2 : A2) (M : ts_M), I d x1 x2 M → (∀ k : A1 → A2 → ts_M → Prop, F k x1 x2 M ↔ R) ∨ ∃ (e : Nat) (y1 : A1) (y2 : A2) (M' : ts_M), e < d ∧ I e y1 y2 M' ∧ ∀ k : A1 → A2 → ts_M → Prop, F k x1 x2 M ↔ k y1 y2 M') (d : Nat) {x1 : A1} {x2 : A2} {M : ts_M} (h0 : I d x1 x2 M) : (∃ n, ts_lp2 F n x1 x2 M) ↔ R := by
  have h1 : ∀ (n d : Nat) (x1 : A1) (x2 : A2) (M : ts_M), I d x1 x2 M → ts_lp2 F n x1 x2 M → R := by
    intro n
    induction n with
    | zero => intro _ _ _ _ _ h2; exact h2.elim
    | succ n ihn =>
      intro d x1 x2 M h2 h3
      rcases hs d x1 x2 M h2 with h4 | ⟨e, y1, y2, M', h5, h6, h7⟩
      · exact (h4 _).mp h3
      · exact ihn e y1 y2 M' h6 ((h7 _).mp h3)
  have h2 : ∀ (n d : Nat), d < n → ∀ (x1 : A1) (x2 : A2) (M : ts_M), I d x1 x2 M → R → ∃ n, ts_lp2 F n x1 x2 M := by
    intro n
    induction n with
    | zero => intro d h3; exact absurd h3 (Nat.not_lt_zero _)
    | succ n ihn =>
      intro d h3 x1 x2 M h4 h5
      rcases hs d x1 x2 M h4 with h6 | ⟨e, y1, y2, M', h7, h8, h9⟩
      · exact ⟨1, (h6 _).mpr h5⟩
      · obtain ⟨j, hj⟩ := ihn e (by omega) y1 y2 M' h8 h5
        exact ⟨j + 1, (h9 _).mpr hj⟩
  exact ⟨fun ⟨n, hn⟩ => h1 n d x1 x2 M h0 hn, fun hr => h2 (d + 1) d (Nat.lt_succ_self d) x1 x2 M h0 hr⟩
theorem tz_it3 {A1 A2 A3 : Type} {F : (A1 → A2 → A3 → ts_M → Prop) → A1 → A2 → A3 → ts_M → Prop} {R : Prop} (I : Nat → A1 → A2 → A3 → ts_M → Prop) (hs : ∀ (d : Nat) (x1 : A1) (x2 : A2) (x3 : A3) (M : ts_M), I d x1 x2 x3 M → (∀ k : A1 → A2 → A3 → ts_M → Prop, F k x1 x2 x3 M ↔ R) ∨ ∃ (e : Nat) (y1 : A1) (y2 : A2) (y3 : A3) (M' : ts_M), e < d ∧ I e y1 y2 y3 M' ∧ ∀ k : A1 → A2 → A3 → ts_M → Prop, F k x1 x2 x3 M ↔ k y1 y2 y3 M') (d : Nat) {x1 : A1} {x2 : A2} {x3 : A3} {M : ts_M} (h0 : I d x1 x2 x3 M) : (∃ n, ts_lp3 F n x1 x2 x3 M) ↔ R := by
  have h1 : ∀ (n d : Nat) (x1 : A1) (x2 : A2) (x3 : A3) (M : ts_M), I d x1 x2 x3 M → ts_lp3 F n x1 x2 x3 M → R := by
    intro n
    induction n with
    | zero => intro _ _ _ _ _ _ h2; exact h2.elim
    | succ n ihn =>
      intro d x1 x2 x3 M h2 h3
      rcases hs d x1 x2 x3 M h2 with h4 | ⟨e, y1, y2, y3, M', h5, h6, h7⟩
      · exact (h4 _).mp h3
      · exact ihn e y1 y2 y3 M' h6 ((h7 _).mp h3)
  have h2 : ∀ (n d : Nat), d < n → ∀ (x1 : A1) (x2 : A2) (x3 : A3) (M : ts_M), I d x1 x2 x3 M → R → ∃ n, ts_lp3 F n x1 x2 x3 M := by
    intro n
    induction n with
    | zero => intro d h3; exact absurd h3 (Nat.not_lt_zero _)
    | succ n ihn =>
      intro d h3 x1 x2 x3 M h4 h5
      rcases hs d x1 x2 x3 M h4 with h6 | ⟨e, y1, y2, y3, M', h7, h8, h9⟩
      · exact ⟨1, (h6 _).mpr h5⟩
      · obtain ⟨j, hj⟩ := ihn e (by omega) y1 y2 y3 M' h8 h5
        exact ⟨j + 1, (h9 _).mpr hj⟩
  exact ⟨fun ⟨n, hn⟩ => h1 n d x1 x2 x3 M h0 hn, fun hr => h2 (d + 1) d (Nat.lt_succ_self d) x1 x2 x3 M h0 hr⟩
theorem tz_it4 {A1 A2 A3 A4 : Type} {F : (A1 → A2 → A3 → A4 → ts_M → Prop) → A1 → A2 → A3 → A4 → ts_M → Prop} {R : Prop} (I : Nat → A1 → A2 → A3 → A4 → ts_M → Prop) (hs : ∀ (d : Nat) (x1 : A1) (x2 : A2) (x3 : A3) (x4 : A4) (M : ts_M), I d x1 x2 x3 x4 M → (∀ k : A1 → A2 → A3 → A4 → ts_M → Prop, F k x1 x2 x3 x4 M ↔ R) ∨ ∃ (e : Nat) (y1 : A1) (y2 : A2) (y3 : A3) (y4 : A4) (M' : ts_M), e < d ∧ I e y1 y2 y3 y4 M' ∧ ∀ k : A1 → A2 → A3 → A4 → ts_M → Prop, F k x1 x2 x3 x4 M ↔ k y1 y2 y3 y4 M') (d : Nat) {x1 : A1} {x2 : A2} {x3 : A3} {x4 : A4} {M : ts_M} (h0 : I d x1 x2 x3 x4 M) : (∃ n, ts_lp4 F n x1 x2 x3 x4 M) ↔ R := by
  have h1 : ∀ (n d : Nat) (x1 : A1) (x2 : A2) (x3 : A3) (x4 : A4) (M : ts_M), I d x1 x2 x3 x4 M → ts_lp4 F n x1 x2 x3 x4 M → R := by
    intro n
    induction n with
    | zero => intro _ _ _ _ _ _ _ h2; exact h2.elim
    | succ n ihn =>
      intro d x1 x2 x3 x4 M h2 h3
      rcases hs d x1 x2 x3 x4 M h2 with h4 | ⟨e, y1, y2, y3, y4, M', h5, h6, h7⟩
      · exact (h4 _).mp h3
      · exact ihn e y1 y2 y3 y4 M' h6 ((h7 _).mp h3)
  have h2 : ∀ (n d : Nat), d < n → ∀ (x1 : A1) (x2 : A2) (x3 : A3) (x4 : A4) (M : ts_M), I d x1 x2 x3 x4 M → R → ∃ n, ts_lp4 F n x1 x2 x3 x4 M := by
    intro n
    induction n with
    | zero => intro d h3; exact absurd h3 (Nat.not_lt_zero _)
    | succ n ihn =>
      intro d h3 x1 x2 x3 x4 M h4 h5
      rcases hs d x1 x2 x3 x4 M h4 with h6 | ⟨e, y1, y2, y3, y4, M', h7, h8, h9⟩
      · exact ⟨1, (h6 _).mpr h5⟩
      · obtain ⟨j, hj⟩ := ihn e (by omega) y1 y2 y3 y4 M' h8 h5
        exact ⟨j + 1, (h9 _).mpr hj⟩
  exact ⟨fun ⟨n, hn⟩ => h1 n d x1 x2 x3 x4 M h0 hn, fun hr => h2 (d + 1) d (Nat.lt_succ_self d) x1 x2 x3 x4 M h0 hr⟩
/-- a number between two -/
def tz_in (lo x up : Int) : Bool := decide (lo ≤ x ∧ x ≤ up)
theorem tz_in_t {lo x up : Int} : tz_in lo x up = true ↔ lo ≤ x ∧ x ≤ up := by simp [tz_in]
theorem tz_in_f {lo x up : Int} : tz_in lo x up = false ↔ ¬ (lo ≤ x ∧ x ≤ up) := by simp [tz_in]
def tz_i (c : Bool) : Int := if c then 1 else 0
theorem tz_i1 : tz_i true = 1 := rfl
theorem tz_i0 : tz_i false = 0 := rfl
theorem tz_iw {c : Bool} : ts_w (tz_i c) = tz_i c := by cases c <;> rfl
theorem tz_iz {c : Bool} : (tz_i c = 0) = (c = false) := by cases c <;> simp [tz_i]
theorem tz_io {c : Bool} : (tz_i c = 1) = (c = true) := by cases c <;> simp [tz_i]
theorem tz_i01 {c : Bool} : (tz_i c = 0 ∨ tz_i c = 1) = True := by cases c <;> simp [tz_i]
theorem tz_y {c A D : Prop} (h1 : c) : ((c → A) ∧ (¬ c → D)) ↔ A := ⟨fun h => h.1 h1, fun h => ⟨fun _ => h, fun h2 => absurd h1 h2⟩⟩
theorem tz_y2 {c A D : Prop} (h1 : c) : ((¬ c → D) ∧ (c → A)) ↔ A := ⟨fun h => h.2 h1, fun h => ⟨fun h2 => absurd h1 h2, fun _ => h⟩⟩
theorem tz_x {c A D : Prop} (h1 : ¬ c) : ((c → A) ∧ (¬ c → D)) ↔ D := ⟨fun h => h.2 h1, fun h => ⟨fun h2 => absurd h2 h1, fun _ => h⟩⟩
theorem tz_x2 {c A D : Prop} (h1 : ¬ c) : ((¬ c → D) ∧ (c → A)) ↔ D := ⟨fun h => h.1 h1, fun h => ⟨fun _ => h, fun h2 => absurd h2 h1⟩⟩
theorem tz_p {c A : Prop} (h1 : c) : (c ∧ A) ↔ A := ⟨fun h => h.2, fun h => ⟨h1, h⟩⟩
theorem tz_g0 {A : Prop} : ((ts_w 0 = 0 ∨ ts_w 0 = 1) ∧ A) ↔ A := tz_p (Or.inl rfl)
theorem tz_g1 {A : Prop} : ((ts_w 1 = 0 ∨ ts_w 1 = 1) ∧ A) ↔ A := tz_p (Or.inr rfl)
