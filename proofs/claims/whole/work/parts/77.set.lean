/-! ===== sets of places as numbers below 64 ===== -/
def tz_dl (a k : Nat) : Nat := if a.testBit k then a - 2 ^ k else a
def tz_pc (a : Nat) : Nat := (a.testBit 0).toNat + (a.testBit 1).toNat + (a.testBit 2).toNat + (a.testBit 3).toNat + (a.testBit 4).toNat + (a.testBit 5).toNat
theorem tz_s_in0 : ∀ a : Fin 64, ∀ k : Fin 6, ts_and (ts_shr (a.val : Int) (k.val : Int)) 1 = tz_i (a.val.testBit k.val) := by decide +kernel
theorem tz_s_dl0 : ∀ a : Fin 64, ∀ k : Fin 6, ts_and (a.val : Int) (ts_xor (ts_shl 1 (k.val : Int)) (-1)) = (tz_dl a.val k.val : Nat) := by decide +kernel
theorem tz_s_sb0 : ∀ a : Fin 64, ∀ k : Fin 6, a.val.testBit k.val = true → (a.val : Int) - ts_shl 1 (k.val : Int) = (tz_dl a.val k.val : Nat) := by decide +kernel
theorem tz_s_tb0 : ∀ a : Fin 64, ∀ k j : Fin 6, (tz_dl a.val k.val).testBit j.val = (a.val.testBit j.val && decide (j.val ≠ k.val)) := by decide +kernel
theorem tz_s_or0 : ∀ a b : Fin 64, ts_or (a.val : Int) (b.val : Int) = ((a.val ||| b.val : Nat) : Int) := by decide +kernel
theorem tz_s_one0 : ∀ k : Fin 7, ts_shl 1 (k.val : Int) = ((2 ^ k.val : Nat) : Int) := by decide +kernel
theorem tz_s_pc0 : ∀ a : Fin 64, ∀ k : Fin 6, a.val.testBit k.val = true → tz_pc (tz_dl a.val k.val) + 1 = tz_pc a.val ∧ tz_dl a.val k.val < a.val := by decide +kernel
theorem tz_s_lt0 : ∀ a b : Fin 64, (∀ k : Fin 6, a.val.testBit k.val = true → b.val.testBit k.val = true) → a ≠ b → tz_pc a.val < tz_pc b.val := by decide +kernel
theorem tz_s_pz0 : ∀ a : Fin 64, tz_pc a.val = 0 → a.val = 0 := by decide +kernel
def tz_bc (p1 : Int) : Int :=
  let x1 := p1 - (ts_and (ts_ushr p1 1) 1431655765)
  let x2 := (ts_and x1 858993459) + (ts_and (ts_ushr x1 2) 858993459)
  let x3 := ts_and (x2 + (ts_ushr x2 4)) 252645135
  let x4 := x3 + (ts_ushr x3 8)
  let x5 := x4 + (ts_ushr x4 16)
  ts_and x5 63
theorem tz_s_bc0 : ∀ a : Fin 64, tz_bc (a.val : Int) = ((tz_pc a.val : Nat) : Int) := by decide +kernel
theorem tz_s_full0 : ∀ n : Fin 7, ∀ k : Fin 6, (2 ^ n.val - 1).testBit k.val = decide (k.val < n.val) := by decide +kernel
theorem tz_s_bit0 : ∀ a : Fin 64, a.val ≠ 0 → ∃ k : Fin 6, a.val.testBit k.val = true := by decide +kernel
theorem tz_s_below0 : ∀ n : Fin 7, ∀ a : Fin 64, a.val < 2 ^ n.val ↔ ∀ k : Fin 6, a.val.testBit k.val = true → k.val < n.val := by decide +kernel
theorem tz_s_many0 : ∀ a : Fin 64, a.val ≠ 0 → tz_pc a.val = a.val % 2 + tz_pc (a.val / 2) := by decide +kernel
theorem tz_s_ext0 : ∀ a b : Fin 64, (∀ k : Fin 6, a.val.testBit k.val = b.val.testBit k.val) → a = b := by decide +kernel
section TZS
variable {a b c k j n f : Nat} {Q : Int → ts_M → Prop} {Qv : ts_M → Prop} {M : ts_M} {s : Nat → Nat → Int} {g g2 : Nat → Int}
theorem tz_s_in (h1 : a < 64) (h2 : k < 6) : ts_and (ts_shr (a : Int) (k : Int)) 1 = tz_i (a.testBit k) := tz_s_in0 ⟨a, h1⟩ ⟨k, h2⟩
theorem tz_s_dl (h1 : a < 64) (h2 : k < 6) : ts_and (a : Int) (ts_xor (ts_shl 1 (k : Int)) (-1)) = (tz_dl a k : Nat) := tz_s_dl0 ⟨a, h1⟩ ⟨k, h2⟩
theorem tz_s_sb (h1 : a < 64) (h2 : k < 6) (h3 : a.testBit k = true) : (a : Int) - ts_shl 1 (k : Int) = (tz_dl a k : Nat) := tz_s_sb0 ⟨a, h1⟩ ⟨k, h2⟩ h3
theorem tz_s_tb (h1 : a < 64) (h2 : k < 6) (h3 : j < 6) : (tz_dl a k).testBit j = (a.testBit j && decide (j ≠ k)) := tz_s_tb0 ⟨a, h1⟩ ⟨k, h2⟩ ⟨j, h3⟩
theorem tz_s_or (h1 : a < 64) (h2 : b < 64) : ts_or (a : Int) (b : Int) = ((a ||| b : Nat) : Int) := tz_s_or0 ⟨a, h1⟩ ⟨b, h2⟩
theorem tz_s_one (h1 : k < 7) : ts_shl 1 (k : Int) = ((2 ^ k : Nat) : Int) := tz_s_one0 ⟨k, h1⟩
theorem tz_s_pc (h1 : a < 64) (h2 : k < 6) (h3 : a.testBit k = true) : tz_pc (tz_dl a k) + 1 = tz_pc a ∧ tz_dl a k < a := tz_s_pc0 ⟨a, h1⟩ ⟨k, h2⟩ h3
theorem tz_s_lt (h1 : a < 64) (h2 : b < 64) (h3 : ∀ k : Nat, k < 6 → a.testBit k = true → b.testBit k = true) (h4 : a ≠ b) : tz_pc a < tz_pc b := tz_s_lt0 ⟨a, h1⟩ ⟨b, h2⟩ (fun k => h3 k.val k.isLt) (fun h => h4 (Fin.mk.inj h))
theorem tz_s_pz (h1 : a < 64) (h2 : tz_pc a = 0) : a = 0 := tz_s_pz0 ⟨a, h1⟩ h2
theorem tz_s_full (h1 : n ≤ 6) (h2 : k < 6) : (2 ^ n - 1).testBit k = decide (k < n) := tz_s_full0 ⟨n, by omega⟩ ⟨k, h2⟩
theorem tz_s_bit (h1 : a < 64) (h2 : a ≠ 0) : ∃ k : Nat, k < 6 ∧ a.testBit k = true := by
  obtain ⟨k, hk⟩ := tz_s_bit0 ⟨a, h1⟩ h2
  exact ⟨k.val, k.isLt, hk⟩
theorem tz_s_64 (h1 : n ≤ 6) (h2 : a < 2 ^ n) : a < 64 := Nat.lt_of_lt_of_le h2 (Nat.pow_le_pow_right (n := 2) (by decide) h1)
theorem tz_s_mem (h1 : n ≤ 6) (h2 : a < 2 ^ n) (h3 : k < 6) (h4 : a.testBit k = true) : k < n := (tz_s_below0 ⟨n, by omega⟩ ⟨a, tz_s_64 h1 h2⟩).mp h2 ⟨k, h3⟩ h4
theorem tz_s_sub (h1 : n ≤ 6) (h2 : a < 64) (h3 : ∀ k : Nat, k < 6 → a.testBit k = true → k < n) : a < 2 ^ n := (tz_s_below0 ⟨n, by omega⟩ ⟨a, h2⟩).mpr (fun k => h3 k.val k.isLt)
theorem tz_s_ext (h1 : a < 64) (h2 : b < 64) (h3 : ∀ k : Nat, k < 6 → a.testBit k = b.testBit k) : a = b := Fin.mk.inj (tz_s_ext0 ⟨a, h1⟩ ⟨b, h2⟩ (fun k => h3 k.val k.isLt))
theorem tz_s_many (h1 : a < 64) (h2 : a ≠ 0) : tz_pc a = a % 2 + tz_pc (a / 2) := tz_s_many0 ⟨a, h1⟩ h2
theorem tz_s_pc6 : tz_pc a ≤ 6 := by
  unfold tz_pc
  have h : ∀ b : Bool, b.toNat ≤ 1 := by decide
  have := h (a.testBit 0); have := h (a.testBit 1); have := h (a.testBit 2); have := h (a.testBit 3); have := h (a.testBit 4); have := h (a.testBit 5)
  omega
theorem tz_s_p1 (h : n ≤ 6) : 1 ≤ 2 ^ n ∧ 2 ^ n ≤ 64 := ⟨Nat.one_le_two_pow, Nat.pow_le_pow_right (n := 2) (by decide) h⟩
theorem tz_s_dlt (h1 : n ≤ 6) (h2 : a < 2 ^ n) : tz_dl a k < 2 ^ n := by
  unfold tz_dl
  split
  · exact Nat.lt_of_le_of_lt (Nat.sub_le _ _) h2
  · exact h2
/-- the class's and the JDK's small ones -/
theorem tc_isIn (h1 : a < 64) (h2 : k < 6) : wX5_isIn (k : Int) (a : Int) Q M ↔ Q (tz_i (a.testBit k)) M := by
  simp only [wX5_isIn, wX5_isIn_B13]
  rw [tz_s_in h1 h2, tz_iw, tz_iz]
  cases a.testBit k
  · rw [tz_y rfl, tz_g0]; rfl
  · rw [tz_x (by decide), tz_g1]; rfl
theorem tc_bits (h1 : a < 64) : wJ6_bitCount_0f7a4 (a : Int) Q M ↔ Q ((tz_pc a : Nat) : Int) M := by
  simp only [wJ6_bitCount_0f7a4, forall_eq]
  rw [← show tz_bc (a : Int) = _ from tz_s_bc0 ⟨a, h1⟩]
  exact Iff.rfl
/-! the smallest sum -/
def tz_dis (s : Nat → Nat → Int) (f a : Nat) : Nat → Int
  | 0 => 0
  | k + 1 => tz_dis s f a k + if a.testBit k then s k f else 0
def tz_mn (g : Nat → Int) : Nat → Int
  | 0 => 1000000
  | n + 1 => if g n < tz_mn g n then g n else tz_mn g n
def tz_Gf (s : Nat → Nat → Int) (n : Nat) : Nat → Nat → Int
  | 0, _ => 0
  | m + 1, a => tz_mn (fun f => if a.testBit f then tz_Gf s n m (tz_dl a f) + tz_dis s f (tz_dl a f) 6 else 1000000) n
/-- the fewest disagreements of an order of a set -/
def tz_G (s : Nat → Nat → Int) (n a : Nat) : Int := tz_Gf s n (tz_pc a) a
/-- what an order costs that begins with f -/
def tz_gf (s : Nat → Nat → Int) (n a f : Nat) : Int := tz_G s n (tz_dl a f) + tz_dis s f (tz_dl a f) 6
def tz_sv (s : Nat → Nat → Int) (n : Nat) : Prop := ∀ i j : Nat, i < n → j < n → 0 ≤ s i j ∧ s i j ≤ 72
theorem tz_dis_rng (hs : tz_sv s n) (hf : f < n) (ha : ∀ k : Nat, k < 6 → a.testBit k = true → k < n) : ∀ {m : Nat}, m ≤ 6 → 0 ≤ tz_dis s f a m ∧ tz_dis s f a m ≤ 72 * (m : Int)
  | 0, _ => ⟨Int.le_refl _, by show (0 : Int) ≤ _; omega⟩
  | m + 1, h => by
    have h1 := tz_dis_rng hs hf ha (m := m) (by omega)
    show 0 ≤ tz_dis s f a m + (if a.testBit m then s m f else 0) ∧ tz_dis s f a m + (if a.testBit m then s m f else 0) ≤ _
    cases hc : a.testBit m
    · rw [if_neg (by decide)]; omega
    · rw [if_pos rfl]
      have := hs m f (ha m (by omega) hc) hf
      omega
theorem tz_mn_le : ∀ {n : Nat}, tz_mn g n ≤ 1000000 ∧ ∀ f : Nat, f < n → tz_mn g n ≤ g f
  | 0 => ⟨Int.le_refl _, fun f h => absurd h (Nat.not_lt_zero f)⟩
  | n + 1 => by
    have h1 := tz_mn_le (n := n)
    show (if g n < tz_mn g n then g n else tz_mn g n) ≤ _ ∧ ∀ f : Nat, f < n + 1 → (if g n < tz_mn g n then g n else tz_mn g n) ≤ g f
    split
    · refine ⟨by omega, fun f hf => ?_⟩
      by_cases c1 : f = n
      · rw [c1]; omega
      · have := h1.2 f (by omega); omega
    · refine ⟨h1.1, fun f hf => ?_⟩
      by_cases c1 : f = n
      · rw [c1]; omega
      · exact h1.2 f (by omega)
theorem tz_mn_at : ∀ {n : Nat}, tz_mn g n = 1000000 ∨ ∃ f : Nat, f < n ∧ tz_mn g n = g f
  | 0 => Or.inl rfl
  | n + 1 => by
    show (if g n < tz_mn g n then g n else tz_mn g n) = _ ∨ ∃ f : Nat, f < n + 1 ∧ (if g n < tz_mn g n then g n else tz_mn g n) = g f
    split
    · exact Or.inr ⟨n, by omega, rfl⟩
    · rcases tz_mn_at (n := n) with h | ⟨f, h1, h2⟩
      · exact Or.inl h
      · exact Or.inr ⟨f, by omega, h2⟩
theorem tz_mn_eq : ∀ {n : Nat}, (∀ f : Nat, f < n → g f = g2 f) → tz_mn g n = tz_mn g2 n
  | 0, _ => rfl
  | n + 1, h => by
    show (if g n < tz_mn g n then g n else tz_mn g n) = (if g2 n < tz_mn g2 n then g2 n else tz_mn g2 n)
    rw [tz_mn_eq (n := n) (fun f hf => h f (by omega)), h n (by omega)]
theorem tz_G_0 : tz_G s n 0 = 0 := rfl
theorem tz_G_s (hn : n ≤ 6) (ha : a < 2 ^ n) (h0 : a ≠ 0) : tz_G s n a = tz_mn (fun f => if a.testBit f then tz_gf s n a f else 1000000) n := by
  have h64 := tz_s_64 hn ha
  have hp : tz_pc a ≠ 0 := fun h => h0 (tz_s_pz h64 h)
  obtain ⟨m, hm⟩ : ∃ m : Nat, tz_pc a = m + 1 := ⟨tz_pc a - 1, by omega⟩
  unfold tz_G
  rw [hm]
  show tz_mn _ n = _
  refine tz_mn_eq (fun f hf => ?_)
  cases hc : a.testBit f
  · rfl
  · have := (tz_s_pc h64 (k := f) (by omega) hc).1
    rw [if_pos rfl, if_pos rfl]
    unfold tz_gf tz_G
    rw [show tz_pc (tz_dl a f) = m by omega]
theorem tz_G_rng (hs : tz_sv s n) (hn : n ≤ 6) : ∀ (m : Nat) {a : Nat}, tz_pc a = m → a < 2 ^ n → 0 ≤ tz_G s n a ∧ tz_G s n a ≤ 432 * (m : Int)
  | 0, a, hm, ha => by
    rw [tz_s_pz (tz_s_64 hn ha) hm]
    exact ⟨Int.le_refl _, by rw [tz_G_0]; omega⟩
  | m + 1, a, hm, ha => by
    have h64 := tz_s_64 hn ha
    have h0 : a ≠ 0 := fun h => by rw [h] at hm; exact absurd hm (by show (0 : Nat) ≠ m + 1; omega)
    have hk : ∀ f : Nat, f < n → a.testBit f = true → 0 ≤ tz_gf s n a f ∧ tz_gf s n a f ≤ 432 * ((m + 1 : Nat) : Int) := fun f hf hc => by
      have h1 := (tz_s_pc h64 (k := f) (by omega) hc).1
      have h2 := tz_G_rng hs hn m (a := tz_dl a f) (by omega) (tz_s_dlt hn ha)
      have h3 := tz_dis_rng hs hf (a := tz_dl a f) (fun k hk hb => tz_s_mem hn (tz_s_dlt hn ha) hk hb) (m := 6) (Nat.le_refl 6)
      unfold tz_gf
      omega
    rw [tz_G_s hn ha h0]
    obtain ⟨k, hk6, hkb⟩ := tz_s_bit h64 h0
    have hkn := tz_s_mem hn ha hk6 hkb
    constructor
    · rcases tz_mn_at (g := fun f => if a.testBit f then tz_gf s n a f else 1000000) (n := n) with h | ⟨f, h1, h2⟩
      · rw [h]; omega
      · rw [h2]
        show 0 ≤ if a.testBit f then tz_gf s n a f else 1000000
        cases hc : a.testBit f
        · rw [if_neg (by decide)]; omega
        · rw [if_pos rfl]; exact (hk f h1 hc).1
    · have h1 := (tz_mn_le (g := fun f => if a.testBit f then tz_gf s n a f else 1000000) (n := n)).2 k hkn
      have h2 : (if a.testBit k then tz_gf s n a k else 1000000) ≤ 432 * ((m + 1 : Nat) : Int) := by rw [if_pos hkb]; exact (hk k hkn hkb).2
      exact Int.le_trans h1 h2
theorem tz_G_r (hs : tz_sv s n) (hn : n ≤ 6) (ha : a < 2 ^ n) : 0 ≤ tz_G s n a ∧ tz_G s n a ≤ 2592 := by
  have h1 := tz_G_rng hs hn (tz_pc a) rfl ha
  have h2 := tz_s_pc6 (a := a)
  omega
theorem tz_gf_r (hs : tz_sv s n) (hn : n ≤ 6) (ha : a < 2 ^ n) (hf : f < n) : 0 ≤ tz_gf s n a f ∧ tz_gf s n a f ≤ 3024 := by
  have h1 := tz_G_r hs hn (tz_s_dlt hn ha (k := f))
  have h3 := tz_dis_rng hs hf (a := tz_dl a f) (fun k hk hb => tz_s_mem hn (tz_s_dlt hn ha) hk hb) (m := 6) (Nat.le_refl 6)
  unfold tz_gf
  omega
/-- the smallest sum is one of a member, and no member has a smaller one -/
theorem tz_G_min (hs : tz_sv s n) (hn : n ≤ 6) (ha : a < 2 ^ n) (h0 : a ≠ 0) : (∃ f : Nat, f < n ∧ a.testBit f = true ∧ tz_gf s n a f = tz_G s n a) ∧ ∀ f : Nat, f < n → a.testBit f = true → tz_G s n a ≤ tz_gf s n a f := by
  have h1 := tz_G_r hs hn ha
  have h2 := tz_mn_le (g := fun f => if a.testBit f then tz_gf s n a f else 1000000) (n := n)
  have h3 := tz_mn_at (g := fun f => if a.testBit f then tz_gf s n a f else 1000000) (n := n)
  rw [← tz_G_s hn ha h0] at h2 h3
  constructor
  · rcases h3 with h | ⟨f, h4, h5⟩
    · omega
    · cases hc : a.testBit f
      · rw [hc] at h5; rw [if_neg (by decide)] at h5; omega
      · rw [hc, if_pos rfl] at h5; exact ⟨f, h4, hc, h5.symm⟩
  · intro f hf hc
    have h4 := h2.2 f hf
    rw [hc, if_pos rfl] at h4
    exact h4
/-! the class -/
def tz_SV (s : Nat → Nat → Int) (n : Nat) (M : ts_M) : Prop := M.1 155 2 = (n : Int) ∧ n ≤ 6 ∧ tz_sv s n ∧ ∀ i j : Nat, i < n → j < n → M.1 156 ((i * 6 + j : Nat) : Int) = s i j
theorem tc_allPlaces (hS : tz_SV s n M) : wX5_allPlaces Q M ↔ Q ((2 ^ n - 1 : Nat) : Int) M := by
  obtain ⟨h1, h2, -⟩ := hS
  unfold wX5_allPlaces
  rw [h1, tz_s_one (by omega)]
  have := tz_s_p1 h2
  rw [show ((2 ^ n : Nat) : Int) - 1 = ((2 ^ n - 1 : Nat) : Int) by omega]
theorem tc_dis (hS : tz_SV s n M) (hf : f < n) (ha : a < 2 ^ n) (hQ : Q (tz_dis s f a 6) M) : wX5_disagreements (f : Int) (a : Int) Q M := by
  obtain ⟨h1, hn, hs, hm⟩ := hS
  have h64 := tz_s_64 hn ha
  simp only [wX5_disagreements, forall_eq]
  refine tz_ex4 (fun d x1 x2 x3 x4 m => ∃ k : Nat, x1 = (f : Int) ∧ x2 = (a : Int) ∧ x3 = tz_dis s f a k ∧ x4 = (k : Int) ∧ m = M ∧ k + d = 6) 6 ⟨0, rfl, rfl, rfl, rfl, rfl, by omega⟩ ?_
  rintro k0 d x1 x2 x3 x4 m ⟨k, rfl, rfl, rfl, rfl, rfl, hd⟩ hk
  simp only [wX5_disagreements_L5, wX5_disagreements_B49, forall_eq]
  rw [tz_n (x := (k : Int)) (by omega) (by omega)]
  by_cases c1 : k = 6
  · rw [tz_y (by omega)]; rw [c1]; exact hQ
  · rw [tz_x (by omega), tc_isIn h64 (by omega), tz_iw, tz_iz]
    have hst : tz_dis s f a (k + 1) = tz_dis s f a k + if a.testBit k then s k f else 0 := rfl
    cases hc : a.testBit k
    · rw [hc, if_neg (by decide), Int.add_zero] at hst
      rw [tz_y rfl]
      exact hk (5 - k) _ _ _ _ _ (by omega) ⟨k + 1, rfl, rfl, hst.symm, by omega, rfl, by omega⟩
    · rw [hc, if_pos rfl] at hst
      have hkn := tz_s_mem hn ha (by omega) hc
      rw [tz_x (by decide), tz_n (x := (k : Int) * 6 + (f : Int)) (by omega) (by omega), tz_n (x := ((36 : Nat) : Int)) (by omega) (by omega), tz_x (by omega), tz_x (by omega), tz_p ⟨by omega, by omega⟩]
      rw [show (k : Int) * 6 + (f : Int) = ((k * 6 + f : Nat) : Int) by omega, hm k f hkn hf]
      exact hk (5 - k) _ _ _ _ _ (by omega) ⟨k + 1, rfl, rfl, hst.symm, by omega, rfl, by omega⟩
/-- the table filled below c -/
def tz_TB (s : Nat → Nat → Int) (n c : Nat) (M : ts_M) : Prop := ∀ b : Nat, b < c → b < 2 ^ n → M.1 157 (b : Int) = tz_G s n b
theorem tc_fwf (hS : tz_SV s n M) (hT : tz_TB s n c M) (hf : f < n) (ha : a < 2 ^ n) (hc : a ≤ c) (hb : a.testBit f = true) (hQ : Q (tz_gf s n a f) M) : wX5_fewestWithFirst (f : Int) (a : Int) Q M := by
  have hn := hS.2.1
  have h64 := tz_s_64 hn ha
  have h2 := tz_s_pc h64 (k := f) (by omega) hb
  simp only [wX5_fewestWithFirst, wX5_fewestWithFirst_B21, forall_eq]
  rw [tz_s_dl h64 (by omega), tz_n (x := ((tz_dl a f : Nat) : Int)) (by omega) (by omega), tz_n (x := ((64 : Nat) : Int)) (by omega) (by omega), tz_x (by omega), tz_y (by omega), tz_p ⟨by omega, by omega⟩]
  refine tc_dis hS hf (tz_s_dlt hn ha) ?_
  rw [hT _ (by omega) (tz_s_dlt hn ha)]
  exact hQ
theorem tc_fewestOf (hS : tz_SV s n M) (hT : tz_TB s n a M) (ha : a < 2 ^ n) (h0 : a ≠ 0) (hQ : Q (tz_G s n a) M) : wX5_fewestOf (a : Int) Q M := by
  have hn := hS.2.1
  have hs := hS.2.2.1
  have h64 := tz_s_64 hn ha
  rw [tz_G_s hn ha h0] at hQ
  simp only [wX5_fewestOf, forall_eq]
  refine tz_ex3 (fun d x1 x2 x3 m => ∃ k : Nat, x1 = (a : Int) ∧ x2 = tz_mn (fun f => if a.testBit f then tz_gf s n a f else 1000000) k ∧ x3 = (k : Int) ∧ m = M ∧ k + d = n) n ⟨0, rfl, rfl, rfl, rfl, by omega⟩ ?_
  rintro k0 d x1 x2 x3 m ⟨k, rfl, rfl, rfl, rfl, hd⟩ hk
  simp only [wX5_fewestOf_L5, wX5_fewestOf_B32, forall_eq]
  rw [hS.1, tz_n (x := (k : Int)) (by omega) (by omega), tz_n (x := (n : Int)) (by omega) (by omega)]
  by_cases c1 : k = n
  · rw [tz_y (by omega), c1]; exact hQ
  · rw [tz_x (by omega), tc_isIn h64 (by omega), tz_iw, tz_iz]
    have hle := (tz_mn_le (g := fun f => if a.testBit f then tz_gf s n a f else 1000000) (n := k)).1
    have hst : tz_mn (fun f => if a.testBit f then tz_gf s n a f else 1000000) (k + 1) = if (if a.testBit k then tz_gf s n a k else 1000000) < tz_mn (fun f => if a.testBit f then tz_gf s n a f else 1000000) k then (if a.testBit k then tz_gf s n a k else 1000000) else tz_mn (fun f => if a.testBit f then tz_gf s n a f else 1000000) k := rfl
    have hge : 0 ≤ tz_mn (fun f => if a.testBit f then tz_gf s n a f else 1000000) k := by
      rcases tz_mn_at (g := fun f => if a.testBit f then tz_gf s n a f else 1000000) (n := k) with h | ⟨f, h1, h2⟩
      · omega
      · have := (tz_gf_r hs hn ha (f := f) (by omega)).1
        rw [h2]
        show 0 ≤ if a.testBit f then tz_gf s n a f else 1000000
        split <;> omega
    generalize tz_mn (fun f => if a.testBit f then tz_gf s n a f else 1000000) k = y at *
    cases hc : a.testBit k
    · rw [hc] at hst
      simp only [Bool.false_eq_true, if_false] at hst
      rw [if_neg (by omega)] at hst
      rw [tz_y rfl]
      exact hk (d - 1) _ _ _ _ (by omega) ⟨k + 1, rfl, hst.symm, by omega, rfl, by omega⟩
    · rw [hc, if_pos rfl] at hst
      have hr := tz_gf_r hs hn ha (f := k) (by omega)
      rw [tz_x (by decide)]
      refine tc_fwf hS hT (by omega) ha (Nat.le_refl a) hc ?_
      rw [tc_min (tz_n (by omega) (by omega)) (tz_n (by omega) (by omega))]
      exact hk (d - 1) _ _ _ _ (by omega) ⟨k + 1, rfl, hst.symm, by omega, rfl, by omega⟩
theorem tz_SV_c {M' : ts_M} (hS : tz_SV s n M) (h5 : M'.1 155 = M.1 155) (h6 : M'.1 156 = M.1 156) : tz_SV s n M' := ⟨by rw [h5]; exact hS.1, hS.2.1, hS.2.2.1, fun i j h1 h2 => by rw [h6]; exact hS.2.2.2 i j h1 h2⟩
theorem tc_byTable (hS : tz_SV s n M) (hQ : ∀ M' : ts_M, tz_fr (fun a => a = 157) M M' → tz_TB s n 64 M' → Q (tz_G s n (2 ^ n - 1)) M') : wX5_fewestByTable Q M := by
  have hn := hS.2.1
  have hp := tz_s_p1 hn
  simp only [wX5_fewestByTable, forall_eq]
  refine tz_ex1 (fun d x1 m => ∃ k : Nat, x1 = (k : Int) ∧ tz_fr (fun a => a = 157) M m ∧ tz_TB s n k m ∧ k + d = 2 ^ n) (2 ^ n) ⟨0, rfl, tz_fr_rfl, fun b hb => absurd hb (Nat.not_lt_zero b), by omega⟩ ?_
  rintro k0 d x1 m ⟨k, rfl, hF, hT, hd⟩ hk
  have hSm : tz_SV s n m := tz_SV_c hS (hF.1 155 (by decide)).1 (hF.1 156 (by decide)).1
  simp only [wX5_fewestByTable_L2, wX5_fewestByTable_B37, wX5_fewestByTable_B44, forall_eq]
  rw [tc_allPlaces hSm, tz_n (x := ((2 ^ n - 1 : Nat) : Int)) (by omega) (by omega), tz_n (x := (k : Int)) (by omega) (by omega), tz_n (x := ((64 : Nat) : Int)) (by omega) (by omega)]
  by_cases c1 : k = 2 ^ n
  · rw [tz_y (by omega), tc_allPlaces hSm, tz_n (x := ((2 ^ n - 1 : Nat) : Int)) (by omega) (by omega), tz_p ⟨by omega, by omega⟩]
    rw [hT (2 ^ n - 1) (by omega) (by omega)]
    exact hQ m hF (fun b _ h2 => hT b (by omega) h2)
  · rw [tz_x (by omega), tz_x (by omega)]
    have hst : ∀ y : Int, y = tz_G s n k → k0 ((k : Int) + 1) (ts_si m 157 (k : Int) y) := fun y hy => by
      refine hk (d - 1) _ _ (by omega) ⟨k + 1, by omega, tz_fr_si rfl hF, fun b h1 h2 => ?_, by omega⟩
      by_cases c2 : b = k
      · rw [c2, tz_si_a, hy]
      · rw [tz_si_k (by omega)]; exact hT b (by omega) h2
    by_cases c2 : k = 0
    · rw [tz_y2 (by omega)]
      rw [tz_p ⟨by omega, by omega⟩]
      exact hst 0 (by rw [c2]; rfl)
    · rw [tz_x2 (by omega)]
      refine tc_fewestOf hSm hT (by omega) c2 ?_
      rw [tz_p ⟨by omega, by omega⟩]
      exact hst _ rfl
end TZS
