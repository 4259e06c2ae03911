/-! ===== copies, and what is remembered ===== -/
/-- the frame: nothing but the cells of S has changed -/
def tz_fr (S : Nat → Prop) (M M' : ts_M) : Prop := (∀ a : Nat, ¬ S a → M'.1 a = M.1 a ∧ M'.2.1 a = M.2.1 a) ∧ M'.2.2 = M.2.2
/-- a part of a cell copied to a part of another -/
def tz_cpo (M : ts_M) (a1 : Nat) (o1 : Int) (a2 : Nat) (o2 n : Int) : ts_M := (fun c j => if c = a2 ∧ o2 ≤ j ∧ j < o2 + n then M.1 a1 (j - o2 + o1) else M.1 c j, M.2)
/-- the newest first -/
def tz_psh (w : Int → Int) (h : Nat → Int → Int) : Nat → Int → Int := fun i => if i = 0 then w else h (i - 1)
/-- the class's history -/
def tz_H (B : Int) (M : ts_M) (n : Int) (h : Nat → Int → Int) : Prop := M.1 158 2 = n ∧ (0 ≤ n ∧ n ≤ 8) ∧ (0 ≤ M.1 158 1 ∧ M.1 158 1 < 8) ∧ ∀ i : Nat, (i : Int) < n → tz_W B (h i) ∧ tz_S (14 * (((M.1 158 1 - 1 - (i : Int)) % 8).toNat + 3)) M (h i)
/-- the reference's history -/
def tz_HM (M : ts_M) (n : Int) (h : Nat → Int → Int) : Prop := M.1 164 5 = n ∧ (0 ≤ n ∧ n ≤ 8) ∧ (0 ≤ M.1 164 6 ∧ M.1 164 6 < 8) ∧ ∀ i : Nat, (i : Int) < n → ∀ k : Int, 0 ≤ k → k < 146 → M.1 166 (146 * ((M.1 164 6 + n - 1 - (i : Int)) % 8) + k) = h i k
section TZM
variable {B n : Int} {Q : Int → ts_M → Prop} {Qv : ts_M → Prop} {M M' M'' : ts_M} {b b2 a1 a2 : Nat} {w w2 : Int → Int} {p1 p2 o1 o2 : Int} {h : Nat → Int → Int} {S : Nat → Prop}
theorem tz_fr_F (hF : tz_F b M M') (hS : ∀ a : Nat, b ≤ a → a < b + 14 → S a) : tz_fr S M M' := ⟨fun a h1 => hF.1 a (fun h2 => h1 (hS a h2.1 h2.2)), hF.2⟩
theorem tz_fr_rfl : tz_fr S M M := ⟨fun _ _ => ⟨rfl, rfl⟩, rfl⟩
theorem tz_fr_tr (h1 : tz_fr S M M') (h2 : tz_fr S M' M'') : tz_fr S M M'' := ⟨fun a h => ⟨(h2.1 a h).1.trans (h1.1 a h).1, (h2.1 a h).2.trans (h1.1 a h).2⟩, h2.2.trans h1.2⟩
theorem tz_fr_si {a : Nat} {k v : Int} (h1 : S a) (h2 : tz_fr S M M') : tz_fr S M (ts_si M' a k v) := ⟨fun c h => ⟨(ts_si_ne (fun (e : c = a) => h (by rw [e]; exact h1))).trans (h2.1 c h).1, (h2.1 c h).2⟩, h2.2⟩
theorem tz_cpo_o {c : Nat} (h : c ≠ a2) : (tz_cpo M a1 o1 a2 o2 n).1 c = M.1 c := by
  funext j; exact if_neg (fun h2 => h h2.1)
theorem tz_cpo_i {k : Int} (h1 : 0 ≤ k) (h2 : k < n) : (tz_cpo M a1 o1 a2 o2 n).1 a2 (o2 + k) = M.1 a1 (o1 + k) := by
  have : (tz_cpo M a1 o1 a2 o2 n).1 a2 (o2 + k) = M.1 a1 (o2 + k - o2 + o1) := if_pos ⟨rfl, by omega, by omega⟩
  rw [this]; exact congrArg (M.1 a1) (by omega)
theorem tz_cpo_e {k : Int} (h1 : ¬ (o2 ≤ k ∧ k < o2 + n)) : (tz_cpo M a1 o1 a2 o2 n).1 a2 k = M.1 a2 k := if_neg (fun h2 => h1 h2.2)
theorem tz_cpo_0 : tz_cpo M a1 o1 a2 o2 0 = M := by
  unfold tz_cpo
  have : (fun (c : Nat) (j : Int) => if c = a2 ∧ o2 ≤ j ∧ j < o2 + 0 then M.1 a1 (j - o2 + o1) else M.1 c j) = M.1 := by
    funext c j; exact if_neg (by omega)
  rw [this]
theorem tz_cpo_s (h0 : 0 ≤ n) : ts_si (tz_cpo M a1 o1 a2 o2 n) a2 (o2 + n) (M.1 a1 (o1 + n)) = tz_cpo M a1 o1 a2 o2 (n + 1) := by
  unfold tz_cpo ts_si
  refine Prod.ext ?_ rfl
  funext c j
  show (if c = a2 ∧ j = o2 + n then M.1 a1 (o1 + n) else if c = a2 ∧ o2 ≤ j ∧ j < o2 + n then M.1 a1 (j - o2 + o1) else M.1 c j) = if c = a2 ∧ o2 ≤ j ∧ j < o2 + (n + 1) then M.1 a1 (j - o2 + o1) else M.1 c j
  by_cases c1 : c = a2 ∧ j = o2 + n
  · rw [if_pos c1, if_pos ⟨c1.1, by omega, by omega⟩]; exact congrArg (M.1 a1) (by omega)
  · rw [if_neg c1]
    by_cases c2 : c = a2 ∧ o2 ≤ j ∧ j < o2 + n
    · rw [if_pos c2, if_pos ⟨c2.1, c2.2.1, by omega⟩]
    · rw [if_neg c2, if_neg (fun h => by
        have : ¬ (j = o2 + n) := fun h3 => c1 ⟨h.1, h3⟩
        exact c2 ⟨h.1, h.2.1, by omega⟩)]
/-! the class copies -/
theorem tc_min (h1 : ts_w p1 = p1) (h2 : ts_w p2 = p2) : wJ9_min_7cf53 p1 p2 Q M ↔ Q (if p2 < p1 then p2 else p1) M := by
  unfold wJ9_min_7cf53 wJ9_min_7cf53_B10
  rw [h1, h2]
  by_cases c1 : p2 < p1
  · rw [tz_y c1, if_pos c1]
  · rw [tz_x c1, if_neg c1]
theorem tc_copyRow {n : Nat} (hn : n ≤ 100) (hQ : Qv (ts_cpy M a1 a2 n)) : wX11_copyRow a1 n a2 n Qv M := by
  unfold wX11_copyRow
  rw [tc_min (tz_n (by omega) (by omega)) (tz_n (by omega) (by omega)), if_neg (by omega), tz_n (x := (n : Int)) (by omega) (by omega)]
  exact ⟨⟨by omega, by omega, by omega⟩, fun M3 h => by rw [h]; exact hQ⟩
theorem tz_cpy_i {k n : Int} (h1 : 0 ≤ k) (h2 : k < n) : (ts_cpy M a1 a2 n).1 a2 k = M.1 a1 k := if_pos ⟨rfl, h1, h2⟩
theorem tz_cpy_2 {n : Int} : (ts_cpy M a1 a2 n).2 = M.2 := rfl
theorem tz_F_cpy {c : Nat} {n : Int} (h1 : c < 14) (h : tz_F b M M') : tz_F b M (ts_cpy M' a1 (b + c) n) := ⟨fun a h2 => ⟨(ts_cpy_ne (by omega)).trans (h.1 a h2).1, (h.1 a h2).2⟩, h.2⟩
theorem tc_copy1 (hd : b + 14 ≤ b2 ∨ b2 + 14 ≤ b) (hw : w 0 ≤ 8) (hS : tz_P1 b2 M w) (hQ : ∀ M' : ts_M, tz_F b M M' → (∀ a : Nat, ¬ (b + 1 ≤ a ∧ a ≤ b + 5) → M'.1 a = M.1 a) → M'.2 = M.2 → tz_P1 b M' w → Qv M') : wX8_copyFrom b b2 Qv M := by
  unfold wX8_copyFrom
  refine tc_copyRow (by omega) ?_
  generalize e1 : ts_cpy M (b2 + 2) (b + 2) (8 : Nat) = M1
  refine tc_copyRow (by omega) ?_
  generalize e2 : ts_cpy M1 (b2 + 3) (b + 3) (8 : Nat) = M2
  refine tc_copyRow (by omega) ?_
  generalize e3 : ts_cpy M2 (b2 + 4) (b + 4) (8 : Nat) = M3
  refine tc_copyRow (by omega) ?_
  generalize e4 : ts_cpy M3 (b2 + 5) (b + 5) (8 : Nat) = M4
  intro M5 e5 M6 e6 M7 e7 M8 e8
  have g1 : ∀ a : Nat, a ≠ b + 2 → M1.1 a = M.1 a := fun a h => by rw [← e1, ts_cpy_ne h]
  have g2 : ∀ a : Nat, a ≠ b + 3 → M2.1 a = M1.1 a := fun a h => by rw [← e2, ts_cpy_ne h]
  have g3 : ∀ a : Nat, a ≠ b + 4 → M3.1 a = M2.1 a := fun a h => by rw [← e3, ts_cpy_ne h]
  have g4 : ∀ a : Nat, a ≠ b + 5 → M4.1 a = M3.1 a := fun a h => by rw [← e4, ts_cpy_ne h]
  have g5 : ∀ a : Nat, a ≠ b + 1 → M5.1 a = M4.1 a := fun a h => by rw [e5, ts_si_ne h]
  have g6 : ∀ a : Nat, a ≠ b + 1 → M6.1 a = M5.1 a := fun a h => by rw [e6, ts_si_ne h]
  have g7 : ∀ a : Nat, a ≠ b + 1 → M7.1 a = M6.1 a := fun a h => by rw [e7, ts_si_ne h]
  have g8 : ∀ a : Nat, a ≠ b + 1 → M8.1 a = M7.1 a := fun a h => by rw [e8, ts_si_ne h]
  have F4 : ∀ a : Nat, ¬ (b + 1 ≤ a ∧ a ≤ b + 5) → M4.1 a = M.1 a := fun a h => by rw [g4 a (by omega), g3 a (by omega), g2 a (by omega), g1 a (by omega)]
  have F7 : ∀ a : Nat, ¬ (b + 1 ≤ a ∧ a ≤ b + 5) → M7.1 a = M.1 a := fun a h => by rw [g7 a (by omega), g6 a (by omega), g5 a (by omega), F4 a h]
  have F8 : ∀ a : Nat, ¬ (b + 1 ≤ a ∧ a ≤ b + 5) → M8.1 a = M.1 a := fun a h => by rw [g8 a (by omega), F7 a h]
  have e : M8.2 = M.2 := by rw [e8, e7, e6, e5, ← e4, ← e3, ← e2, ← e1]; rfl
  obtain ⟨a1, a2, a3, a4⟩ := hS
  refine hQ M8 ⟨fun a h => ⟨F8 a (by omega), by rw [e]⟩, by rw [e]⟩ F8 e ⟨?_, fun s h1 h2 => ?_, ?_, ?_⟩
  · rw [e8, tz_si_k (by omega), e7, tz_si_k (by omega), e6, tz_si_k (by omega), e5, tz_si_a, F4 _ (by omega), a1]
  · have h3 := a2 s h1 h2
    rw [g8 (b + 2) (by omega), g7 (b + 2) (by omega), g6 (b + 2) (by omega), g5 (b + 2) (by omega), g4 (b + 2) (by omega), g3 (b + 2) (by omega), g2 (b + 2) (by omega), ← e1, tz_cpy_i h1 (by omega), h3.1]
    rw [g8 (b + 3) (by omega), g7 (b + 3) (by omega), g6 (b + 3) (by omega), g5 (b + 3) (by omega), g4 (b + 3) (by omega), g3 (b + 3) (by omega), ← e2, tz_cpy_i h1 (by omega), g1 _ (by omega), h3.2.1]
    rw [g8 (b + 4) (by omega), g7 (b + 4) (by omega), g6 (b + 4) (by omega), g5 (b + 4) (by omega), g4 (b + 4) (by omega), ← e3, tz_cpy_i h1 (by omega), g2 _ (by omega), g1 _ (by omega), h3.2.2.1]
    rw [g8 (b + 5) (by omega), g7 (b + 5) (by omega), g6 (b + 5) (by omega), g5 (b + 5) (by omega), ← e4, tz_cpy_i h1 (by omega), g3 _ (by omega), g2 _ (by omega), g1 _ (by omega), h3.2.2.2]
    exact ⟨rfl, rfl, rfl, rfl⟩
  · have q5 : M8.1 (b + 1) 5 = M.1 (b2 + 1) 5 := by rw [e8, tz_si_k (by omega), e7, tz_si_k (by omega), e6, tz_si_a, g5 _ (by omega), F4 _ (by omega)]
    have q6 : M8.1 (b + 1) 6 = M.1 (b2 + 1) 6 := by rw [e8, tz_si_k (by omega), e7, tz_si_a, g6 _ (by omega), g5 _ (by omega), F4 _ (by omega)]
    rw [q5, q6, a3]
  · rw [e8, tz_si_a, F7 _ (by omega), a4]
theorem tc_copy2 (hd : b + 14 ≤ b2 ∨ b2 + 14 ≤ b) (hw : w 1 ≤ 6) (hS : tz_P2 b2 M w) (hQ : ∀ M' : ts_M, tz_F b M M' → (∀ a : Nat, ¬ (b + 6 ≤ a ∧ a ≤ b + 8) → M'.1 a = M.1 a) → M'.2 = M.2 → tz_P2 b M' w → Qv M') : wX4_copyFrom b b2 Qv M := by
  unfold wX4_copyFrom
  refine tc_copyRow (by omega) ?_
  generalize e1 : ts_cpy M (b2 + 7) (b + 7) (6 : Nat) = M1
  refine tc_copyRow (by omega) ?_
  generalize e2 : ts_cpy M1 (b2 + 8) (b + 8) (6 : Nat) = M2
  intro M3 e3 M4 e4
  have g1 : ∀ a : Nat, a ≠ b + 7 → M1.1 a = M.1 a := fun a h => by rw [← e1, ts_cpy_ne h]
  have g2 : ∀ a : Nat, a ≠ b + 8 → M2.1 a = M1.1 a := fun a h => by rw [← e2, ts_cpy_ne h]
  have g3 : ∀ a : Nat, a ≠ b + 6 → M3.1 a = M2.1 a := fun a h => by rw [e3, ts_si_ne h]
  have g4 : ∀ a : Nat, a ≠ b + 6 → M4.1 a = M3.1 a := fun a h => by rw [e4, ts_si_ne h]
  have F4 : ∀ a : Nat, ¬ (b + 6 ≤ a ∧ a ≤ b + 8) → M4.1 a = M.1 a := fun a h => by rw [g4 a (by omega), g3 a (by omega), g2 a (by omega), g1 a (by omega)]
  have e : M4.2 = M.2 := by rw [e4, e3, ← e2, ← e1]; rfl
  obtain ⟨a1, a2, a3⟩ := hS
  refine hQ M4 ⟨fun a h => ⟨F4 a (by omega), by rw [e]⟩, by rw [e]⟩ F4 e ⟨?_, ?_, fun s h1 h2 => ?_⟩
  · rw [e4, tz_si_k (by omega), e3, tz_si_a, g2 _ (by omega), g1 _ (by omega), a1]
  · rw [e4, tz_si_a, g3 _ (by omega), g2 _ (by omega), g1 _ (by omega), a2]
  · have h3 := a3 s h1 h2
    rw [g4 (b + 7) (by omega), g3 (b + 7) (by omega), g2 (b + 7) (by omega), ← e1, tz_cpy_i h1 (by omega), h3.1]
    rw [g4 (b + 8) (by omega), g3 (b + 8) (by omega), ← e2, tz_cpy_i h1 (by omega), g1 _ (by omega), h3.2]
    exact ⟨rfl, rfl⟩
theorem tc_copy3 (hd : b + 14 ≤ b2 ∨ b2 + 14 ≤ b) (hw : w 3 ≤ 5) (hv : 0 ≤ w 4 ∧ w 4 ≤ 1) (hS : tz_P3 b2 M w) (hQ : ∀ M' : ts_M, tz_F b M M' → (∀ a : Nat, ¬ (b + 9 ≤ a ∧ a ≤ b + 10) → M'.1 a = M.1 a) → M'.2 = M.2 → tz_P3 b M' w → Qv M') : wX10_copyFrom b b2 Qv M := by
  unfold wX10_copyFrom
  refine tc_copyRow (by omega) ?_
  generalize e1 : ts_cpy M (b2 + 10) (b + 10) (5 : Nat) = M1
  intro M2 e2 M3 e3 M4 e4
  have g1 : ∀ a : Nat, a ≠ b + 10 → M1.1 a = M.1 a := fun a h => by rw [← e1, ts_cpy_ne h]
  have g2 : ∀ a : Nat, a ≠ b + 9 → M2.1 a = M1.1 a := fun a h => by rw [e2, ts_si_ne h]
  have g3 : ∀ a : Nat, a ≠ b + 9 → M3.1 a = M2.1 a := fun a h => by rw [e3, ts_si_ne h]
  have g4 : ∀ a : Nat, a ≠ b + 9 → M4.1 a = M3.1 a := fun a h => by rw [e4, ts_si_ne h]
  have F4 : ∀ a : Nat, ¬ (b + 9 ≤ a ∧ a ≤ b + 10) → M4.1 a = M.1 a := fun a h => by rw [g4 a (by omega), g3 a (by omega), g2 a (by omega), g1 a (by omega)]
  obtain ⟨a1, a2, a3, a4, a5⟩ := hS
  have f4 : M4.1 (b2 + 9) 4 = w 4 := by rw [F4 _ (by omega), a4]
  rw [f4]
  refine ⟨by rw [tz_n (by omega) (by omega)]; omega, fun M5 e5 => ?_⟩
  have g5 : ∀ a : Nat, a ≠ b + 9 → M5.1 a = M4.1 a := fun a h => by rw [e5, ts_si_ne h]
  have F5 : ∀ a : Nat, ¬ (b + 9 ≤ a ∧ a ≤ b + 10) → M5.1 a = M.1 a := fun a h => by rw [g5 a (by omega), F4 a (by omega)]
  have e : M5.2 = M.2 := by rw [e5, e4, e3, e2, ← e1]; rfl
  refine hQ M5 ⟨fun a h => ⟨F5 a (by omega), by rw [e]⟩, by rw [e]⟩ F5 e ⟨?_, fun h1 h2 => ?_, fun k h1 h2 h3 => ?_, ?_, fun k h1 h2 => ?_⟩
  · rw [e5, tz_si_k (by omega), e4, tz_si_k (by omega), e3, tz_si_k (by omega), e2, tz_si_a, g1 _ (by omega), a1]
  · rw [e5, tz_si_k (by omega), e4, tz_si_k (by omega), e3, tz_si_a, g2 _ (by omega), g1 _ (by omega), a2 h1 h2]
  · rw [e5, tz_si_k (by omega), e4, tz_si_a, g3 _ (by omega), g2 _ (by omega), g1 _ (by omega), a3 k h1 h2 h3]
  · rw [e5, tz_si_a]
  · rw [g5 _ (by omega), g4 _ (by omega), g3 _ (by omega), g2 _ (by omega), ← e1, tz_cpy_i h1 (by omega), a5 k h1 h2]
theorem tc_copy (hd : b + 14 ≤ b2 ∨ b2 + 14 ≤ b) (hW : tz_W B w) (hS : tz_S b2 M w) (hQ : ∀ M' : ts_M, tz_F b M M' → tz_S b M' w → Qv M') : wX9_copyFrom b b2 Qv M := by
  have hW' := hW
  obtain ⟨e0, e1, -, e3, ev, -⟩ := hW'
  unfold wX9_copyFrom
  refine tc_copy1 hd e0.2 (tz_S_1 hS) (fun m1 f1 o1 l1 P1 => ?_)
  refine tc_copy2 hd e1.2 (w := w) (tz_P2_c (tz_S_2 hS) e1.2 (fun c h1 h2 => o1 _ (by omega)) (fun j _ => rfl)) (fun m2 f2 o2 l2 P2 => ?_)
  refine tc_copy3 hd e3.2 ev (w := w) (tz_P3_c (tz_S_3 hS) e3.2 (fun c h1 h2 => by rw [o2 _ (by omega), o1 _ (by omega)]) (fun j _ => rfl)) (fun m3 f3 o3 l3 P3 => ?_)
  intro m4 e4
  refine tc_copyRow (by omega) ?_
  generalize e5 : ts_cpy m4 (b2 + 13) (b + 13) (20 : Nat) = m5
  intro m6 e6 m7 e7 m8 e8 m9 e9
  have P4 : tz_P4 b m3 w → True := fun _ => trivial
  have g4 : ∀ a : Nat, m4.1 a = m3.1 a := fun a => by rw [e4]; rfl
  have g5 : ∀ a : Nat, a ≠ b + 13 → m5.1 a = m4.1 a := fun a h => by rw [← e5, ts_cpy_ne h]
  have g6 : ∀ a : Nat, a ≠ b → m6.1 a = m5.1 a := fun a h => by rw [e6, ts_si_ne h]
  have g7 : ∀ a : Nat, a ≠ b → m7.1 a = m6.1 a := fun a h => by rw [e7, ts_si_ne h]
  have g8 : ∀ a : Nat, a ≠ b → m8.1 a = m7.1 a := fun a h => by rw [e8, ts_si_ne h]
  have g9 : ∀ a : Nat, a ≠ b → m9.1 a = m8.1 a := fun a h => by rw [e9, ts_si_ne h]
  have F5 : ∀ a : Nat, a ≠ b + 13 → m5.1 a = m3.1 a := fun a h => by rw [g5 a h, g4 a]
  have F9 : ∀ a : Nat, a ≠ b → a ≠ b + 13 → m9.1 a = m3.1 a := fun a h h2 => by rw [g9 a h, g8 a h, g7 a h, g6 a h, F5 a h2]
  have O : ∀ a : Nat, (b2 ≤ a ∧ a < b2 + 14) → m3.1 a = M.1 a := fun a h => by rw [o3 a (by omega), o2 a (by omega), o1 a (by omega)]
  have l : m3.2 = M.2 := by rw [l3, l2, l1]
  have l9 : m9.2 = m4.2 := by rw [e9, e8, e7, e6, ← e5]; rfl
  obtain ⟨d1, d2, d3, d4, d5⟩ := tz_S_5 hS
  refine hQ m9 ⟨fun a h => ⟨?_, ?_⟩, ?_⟩ (tz_S_of ?_ ?_ ?_ ?_ ⟨fun k h1 h2 => ?_, ?_, ?_, ?_, ?_⟩)
  · rw [F9 a (by omega) (by omega)]
    rw [(f3.1 a h).1, (f2.1 a h).1, (f1.1 a h).1]
  · rw [l9, e4, ts_sl_ne (by omega), l]
  · rw [l9, e4]; show m3.2.2 = _; rw [l]
  · exact tz_P1_c P1 e0.2 (fun c h1 h2 => by rw [F9 _ (by omega) (by omega), o3 _ (by omega), o2 _ (by omega)]) (fun _ _ => rfl)
  · exact tz_P2_c P2 e1.2 (fun c h1 h2 => by rw [F9 _ (by omega) (by omega), o3 _ (by omega)]) (fun _ _ => rfl)
  · exact tz_P3_c P3 e3.2 (fun c h1 h2 => by rw [F9 _ (by omega) (by omega)]) (fun _ _ => rfl)
  · intro k hk
    rw [l9, e4]
    have : (ts_sl m3 (b + 11) 0 (m3.2.1 (b2 + 11) 0)).2.1 (b + 11) 0 = m3.2.1 (b2 + 11) 0 := if_pos ⟨rfl, rfl⟩
    rw [this, l]
    exact tz_S_4 hS k hk
  · rw [g9 _ (by omega), g8 _ (by omega), g7 _ (by omega), g6 _ (by omega), ← e5, tz_cpy_i h1 (by omega), g4, O _ (by omega), d1 k h1 h2]
  · rw [e9, tz_si_k (by omega), e8, tz_si_k (by omega), e7, tz_si_k (by omega), e6, tz_si_a, F5 _ (by omega), O _ (by omega), d2]
  · rw [e9, tz_si_k (by omega), e8, tz_si_k (by omega), e7, tz_si_a, g6 _ (by omega), F5 _ (by omega), O _ (by omega), d3]
  · rw [e9, tz_si_k (by omega), e8, tz_si_a, g7 _ (by omega), g6 _ (by omega), F5 _ (by omega), O _ (by omega), d4]
  · rw [e9, tz_si_a, g8 _ (by omega), g7 _ (by omega), g6 _ (by omega), F5 _ (by omega), O _ (by omega), d5]
end TZM
