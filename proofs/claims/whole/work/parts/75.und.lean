/-! ===== remember and step back, on both sides ===== -/
section TZN
variable {B n : Int} {Q : Int → ts_M → Prop} {Qv : ts_M → Prop} {M M' M'' : ts_M} {b b2 a1 a2 : Nat} {w w2 : Int → Int} {p1 p2 o1 o2 : Int} {h : Nat → Int → Int} {S : Nat → Prop}
/-- a State in a memory that agrees there -/
theorem tz_S_m (hW : tz_W B w) (hS : tz_S b M w) (hc : ∀ a : Nat, b ≤ a → a < b + 14 → M'.1 a = M.1 a ∧ M'.2.1 a = M.2.1 a) : tz_S b M' w := tz_S_c hW hS (fun c h => (hc _ (by omega) (by omega)).1) (by rw [(hc _ (by omega) (by omega)).2]) (fun _ _ _ => rfl)
/-- the cells of the class's history -/
def tz_sh (a : Nat) : Prop := (42 ≤ a ∧ a < 154) ∨ a = 158
theorem tz_fr_m {T : Nat → Prop} (hF : tz_fr S M M') (h : ∀ a : Nat, S a → T a) : tz_fr T M M' := ⟨fun a h2 => hF.1 a (fun h3 => h2 (h a h3)), hF.2⟩
theorem tc_remember (hW : tz_W B w) (hS : tz_S 0 M w) (hH : tz_H B M n h) (hQ : ∀ M' : ts_M, tz_fr tz_sh M M' → tz_H B M' (if n < 8 then n + 1 else 8) (tz_psh w h) → Qv M') : wX3_remember 0 Qv M := by
  obtain ⟨c0, cn, cx, ch⟩ := hH
  unfold wX3_remember
  rw [tc_floorMod cx.1 (by omega) (by omega) (by omega)]
  generalize hx : M.1 158 1 = x at *
  have hm : x % 8 = x := by omega
  rw [hm, tz_n (x := x) (by omega) (by omega)]
  refine ⟨cx, fun b3 hb => ?_⟩
  refine tc_copy (b := b3) (by omega) hW hS (fun m f s => ?_)
  have mx : m.1 158 1 = x := by rw [(f.1 158 (by omega)).1, hx]
  have mn : m.1 158 2 = n := by rw [(f.1 158 (by omega)).1, c0]
  rw [mx, tc_floorMod (by omega) (by omega) (by omega) (by omega)]
  intro m1 e1
  rw [show m1.1 158 2 = n by rw [e1, tz_si_k (by omega), mn]]
  rw [tc_min (tz_n (by omega) (by omega)) (tz_n (by omega) (by omega))]
  intro m2 e2
  unfold wX3_remember_B54
  have e3 : (if 8 < n + 1 then 8 else n + 1) = if n < 8 then n + 1 else (8 : Int) := by
    by_cases c1 : n < 8
    · rw [if_pos c1, if_neg (by omega)]
    · rw [if_neg c1, if_pos (by omega)]
  rw [e3] at e2
  generalize hn : (if n < 8 then n + 1 else (8 : Int)) = n' at *
  have hn' : n' ≤ n + 1 ∧ 0 ≤ n' ∧ n' ≤ 8 := by rw [← hn]; split <;> omega
  have g : ∀ a : Nat, a ≠ 158 → m2.1 a = m.1 a := fun a h => by rw [e2, ts_si_ne h, e1, ts_si_ne h]
  have g2 : m2.2 = m.2 := by rw [e2, e1]; rfl
  have q1 : m2.1 158 1 = (x + 1) % 8 := by rw [e2, tz_si_k (by omega), e1, tz_si_a]
  have q2 : m2.1 158 2 = n' := by rw [e2, tz_si_a]
  refine hQ m2 ⟨fun a h1 => ?_, ?_⟩ ⟨q2, by omega, by rw [q1]; omega, fun i hi => ?_⟩
  · have h2 : ¬ (42 ≤ a ∧ a < 154) := fun h3 => h1 (Or.inl h3)
    have h4 : a ≠ 158 := fun h3 => h1 (Or.inr h3)
    rw [g a h4, g2]
    exact f.1 a (by omega)
  · rw [g2]; exact f.2
  · rw [q1]
    unfold tz_psh
    by_cases c1 : i = 0
    · rw [if_pos c1]
      refine ⟨hW, tz_S_m (M := m) hW ?_ (fun a h1 h2 => ⟨g a (by omega), by rw [g2]⟩)⟩
      have : 14 * ((((x + 1) % 8 - 1 - (i : Int)) % 8).toNat + 3) = b3 := by rw [hb, c1]; congr 3; omega
      rw [this]; exact s
    · rw [if_neg c1]
      have h3 := ch (i - 1) (by omega)
      have e5 : ((x + 1) % 8 - 1 - (i : Int)) % 8 = (x - 1 - ((i - 1 : Nat) : Int)) % 8 := by omega
      rw [e5]
      refine ⟨h3.1, tz_S_m (M := M) h3.1 h3.2 (fun a h1 h2 => ?_)⟩
      rw [g a (by omega), g2]
      exact f.1 a (by omega)
theorem tc_stepBack (hH : tz_H B M n h) (hn : n ≠ 0) (hQ : ∀ M' : ts_M, tz_fr (fun a => a < 14 ∨ a = 158) M M' → tz_W B (h 0) → tz_S 0 M' (h 0) → tz_H B M' (n - 1) (fun i => h (i + 1)) → Qv M') : wX3_stepBack 0 Qv M := by
  obtain ⟨c0, cn, cx, ch⟩ := hH
  unfold wX3_stepBack
  generalize hx : M.1 158 1 = x at *
  rw [tc_floorMod1 (by omega) (by omega), c0, tz_n (x := (x - 1) % 8) (by omega) (by omega), tz_n (x := n) (by omega) (by omega)]
  refine ⟨by omega, fun b3 hb => ?_⟩
  rw [tz_x (by omega)]
  have h0 := ch 0 (by omega)
  have eb : 14 * (((x - 1 - ((0 : Nat) : Int)) % 8).toNat + 3) = b3 := by rw [hb]; congr 3; omega
  rw [eb] at h0
  refine tc_copy (b2 := b3) (by omega) h0.1 h0.2 (fun m f s => ?_)
  have mx : m.1 158 1 = x := by rw [(f.1 158 (by omega)).1, hx]
  have mn : m.1 158 2 = n := by rw [(f.1 158 (by omega)).1, c0]
  rw [mx, tc_floorMod1 (by omega) (by omega)]
  intro m1 e1
  rw [show m1.1 158 2 = n by rw [e1, tz_si_k (by omega), mn]]
  intro m2 e2
  unfold wX3_stepBack_B58
  have g : ∀ a : Nat, a ≠ 158 → m2.1 a = m.1 a := fun a h => by rw [e2, ts_si_ne h, e1, ts_si_ne h]
  have g2 : m2.2 = m.2 := by rw [e2, e1]; rfl
  have q1 : m2.1 158 1 = (x - 1) % 8 := by rw [e2, tz_si_k (by omega), e1, tz_si_a]
  have q2 : m2.1 158 2 = n - 1 := by rw [e2, tz_si_a]
  refine hQ m2 ⟨fun a h1 => ?_, ?_⟩ h0.1 (tz_S_m h0.1 s (fun a h1 h2 => ⟨g a (by omega), by rw [g2]⟩)) ⟨q2, by omega, by rw [q1]; omega, fun i hi => ?_⟩
  · have h2 : ¬ (a < 14) := fun h3 => h1 (Or.inl h3)
    have h4 : a ≠ 158 := fun h3 => h1 (Or.inr h3)
    rw [g a h4, g2]
    exact f.1 a (by omega)
  · rw [g2]; exact f.2
  · rw [q1]
    have h3 := ch (i + 1) (by omega)
    have e5 : ((x - 1) % 8 - 1 - (i : Int)) % 8 = (x - 1 - ((i + 1 : Nat) : Int)) % 8 := by omega
    rw [e5]
    refine ⟨h3.1, tz_S_m (M := M) h3.1 h3.2 (fun a h1 h2 => ?_)⟩
    rw [g a (by omega), g2]
    exact f.1 a (by omega)
/-! the reference -/
theorem tm_copies (hQ : Qv (tz_cpo M 165 0 168 0 146)) : wX12_copies Qv M := by
  simp only [wX12_copies, forall_eq]
  refine tz_ex1 (fun d x m => m = tz_cpo M 165 0 168 0 x ∧ 0 ≤ x ∧ x ≤ 146 ∧ d = (146 - x).toNat) 146 ⟨(Eq.symm tz_cpo_0), by omega, by omega, by omega⟩ ?_
  rintro k d x m ⟨e, i1, i2, rfl⟩ hk
  simp only [wX12_copies_L2, forall_eq]
  rw [tz_n (x := x) (by omega) (by omega)]
  by_cases c1 : 146 ≤ x
  · rw [tz_y c1, e, show x = 146 by omega]; exact hQ
  · rw [tz_x c1, tz_p ⟨by omega, by omega⟩, tz_p ⟨by omega, by omega⟩]
    refine hk (146 - (x + 1)).toNat _ _ (by omega) ⟨?_, by omega, by omega, rfl⟩
    rw [e, tz_cpo_o (by decide), ← tz_cpo_s i1, Int.zero_add]
theorem tm_goesBack (hQ : Qv (tz_cpo M 168 0 165 0 146)) : wX12_goesBack Qv M := by
  simp only [wX12_goesBack, forall_eq]
  refine tz_ex1 (fun d x m => m = tz_cpo M 168 0 165 0 x ∧ 0 ≤ x ∧ x ≤ 146 ∧ d = (146 - x).toNat) 146 ⟨(Eq.symm tz_cpo_0), by omega, by omega, by omega⟩ ?_
  rintro k d x m ⟨e, i1, i2, rfl⟩ hk
  simp only [wX12_goesBack_L2, forall_eq]
  rw [tz_n (x := x) (by omega) (by omega)]
  by_cases c1 : 146 ≤ x
  · rw [tz_y c1, e, show x = 146 by omega]; exact hQ
  · rw [tz_x c1, tz_p ⟨by omega, by omega⟩, tz_p ⟨by omega, by omega⟩]
    refine hk (146 - (x + 1)).toNat _ _ (by omega) ⟨?_, by omega, by omega, rfl⟩
    rw [e, tz_cpo_o (by decide), ← tz_cpo_s i1, Int.zero_add]
theorem tm_keeps1 (hn : 0 ≤ M.1 164 5 ∧ M.1 164 5 < 8) (hx : 0 ≤ M.1 164 6 ∧ M.1 164 6 < 8) (hQ : Qv (ts_si (tz_cpo M 168 0 166 (146 * ((M.1 164 6 + M.1 164 5) % 8)) 146) 164 5 (M.1 164 5 + 1))) : wX12_keeps_B32 Qv M := by
  simp only [wX12_keeps_B32, forall_eq]
  rw [tz_rem (by omega) (by omega) (by omega) (by omega)]
  generalize hy : (M.1 164 6 + M.1 164 5) % 8 = y at *
  refine tz_ex2 (fun d z x m => z = y ∧ m = tz_cpo M 168 0 166 (146 * y) x ∧ 0 ≤ x ∧ x ≤ 146 ∧ d = (146 - x).toNat) 146 ⟨rfl, (Eq.symm tz_cpo_0), by omega, by omega, by omega⟩ ?_
  rintro k d z x m ⟨rfl, e, i1, i2, rfl⟩ hk
  simp only [wX12_keeps_L47, forall_eq]
  rw [tz_n (x := x) (by omega) (by omega)]
  by_cases c1 : 146 ≤ x
  · rw [tz_y c1, e, show x = 146 by omega, tz_cpo_o (by decide)]; exact hQ
  · rw [tz_x c1, tz_p ⟨by omega, by omega⟩, tz_n (x := 146 * z + x) (by omega) (by omega), tz_p ⟨by omega, by omega⟩]
    refine hk (146 - (x + 1)).toNat _ _ _ (by omega) ⟨rfl, ?_, by omega, by omega, rfl⟩
    rw [e, tz_cpo_o (by decide), ← tz_cpo_s i1, Int.zero_add]
theorem tm_remembers (hH : tz_HM M n h) (hQ : ∀ M' : ts_M, tz_fr (fun a => a = 164 ∨ a = 166 ∨ a = 168) M M' → (∀ j : Int, j ≠ 5 → j ≠ 6 → M'.1 164 j = M.1 164 j) → tz_HM M' (if n < 8 then n + 1 else 8) (tz_psh (M.1 165) h) → Qv M') : wX12_remembers Qv M := by
  obtain ⟨c0, cn, cx, ch⟩ := hH
  unfold wX12_remembers
  refine tm_copies ?_
  generalize e1 : tz_cpo M 165 0 168 0 146 = m1
  have g1 : ∀ a : Nat, a ≠ 168 → m1.1 a = M.1 a := fun a h => by rw [← e1, tz_cpo_o h]
  have l1 : m1.2 = M.2 := by rw [← e1]; rfl
  have r1 : ∀ k : Int, 0 ≤ k → k < 146 → m1.1 168 k = M.1 165 k := fun k h1 h2 => by
    have := tz_cpo_i (M := M) (a1 := 165) (o1 := 0) (a2 := 168) (o2 := 0) h1 h2
    rw [Int.zero_add] at this
    rw [← e1]; exact this
  -- the general end: m is the memory after the oldest is dropped
  have fin : ∀ (m : ts_M) (x t : Int), (∀ a : Nat, a ≠ 164 → m.1 a = m1.1 a) → m.2 = m1.2 → (∀ j : Int, j ≠ 5 → j ≠ 6 → m.1 164 j = M.1 164 j) → m.1 164 6 = x → m.1 164 5 = t → (0 ≤ x ∧ x < 8) → (0 ≤ t ∧ t < 8) → t + 1 = (if n < 8 then n + 1 else 8) → (∀ i : Nat, (i : Int) < t → (M.1 164 6 + n - 1 - (i : Int)) % 8 = (x + t - 1 - (i : Int)) % 8) → wX12_keeps_B32 Qv m := by
    intro m x t g2 l2 o2 x2 t2 hx ht hn' hi
    refine tm_keeps1 (by omega) (by omega) ?_
    rw [x2, t2]
    generalize e3 : tz_cpo m 168 0 166 (146 * ((x + t) % 8)) 146 = m3
    have g3 : ∀ a : Nat, a ≠ 166 → m3.1 a = m.1 a := fun a h => by rw [← e3, tz_cpo_o h]
    have l3 : m3.2 = m.2 := by rw [← e3]; rfl
    refine hQ (ts_si m3 164 5 (t + 1)) ⟨fun a h1 => ?_, ?_⟩ (fun j h5 h6 => ?_) ⟨?_, ?_, ?_, fun i hi2 k h1 h2 => ?_⟩
    · have h2 : a ≠ 164 := fun h3 => h1 (Or.inl h3)
      have h3 : a ≠ 166 := fun h3 => h1 (Or.inr (Or.inl h3))
      have h4 : a ≠ 168 := fun h3 => h1 (Or.inr (Or.inr h3))
      exact ⟨by rw [ts_si_ne h2, g3 _ h3, g2 _ h2, g1 _ h4], by show m3.2.1 a = _; rw [l3, l2, l1]⟩
    · show m3.2.2 = _; rw [l3, l2, l1]
    · rw [tz_si_k h5, g3 _ (by decide), o2 j h5 h6]
    · rw [tz_si_a, hn']
    · rw [← hn']; omega
    · rw [tz_si_k (by decide), g3 _ (by decide), x2]; exact hx
    · rw [ts_si_ne (by decide : (166 : Nat) ≠ 164), tz_si_k (by decide : (6 : Int) ≠ 5), g3 164 (by decide), x2, ← hn']
      rw [← hn'] at hi2
      unfold tz_psh
      by_cases c1 : i = 0
      · rw [if_pos c1, c1, show x + (t + 1) - 1 - ((0 : Nat) : Int) = x + t by omega, ← e3, tz_cpo_i h1 h2, Int.zero_add, g2 168 (by decide), r1 k h1 h2]
      · rw [if_neg c1, ← e3, tz_cpo_e (by omega), g2 166 (by decide), g1 166 (by decide)]
        rw [show x + (t + 1) - 1 - (i : Int) = x + t - 1 - ((i - 1 : Nat) : Int) by omega, ← hi (i - 1) (by omega)]
        exact ch (i - 1) (by split at hn' <;> omega) k h1 h2
  unfold wX12_keeps
  rw [g1 164 (by decide), c0, tz_n (x := n) (by omega) (by omega)]
  by_cases c1 : n = 8
  · rw [tz_y2 c1]
    intro m2 e2 m3 e4
    rw [tz_rem (by omega) (by omega) (by omega) (by omega)] at e2
    have t2 : m2.1 164 5 = n := by rw [e2, tz_si_k (by decide), g1 164 (by decide), c0]
    rw [t2] at e4
    refine fin m3 ((M.1 164 6 + 1) % 8) 7 (fun a h => by rw [e4, ts_si_ne h, e2, ts_si_ne h]) (by rw [e4, e2]; rfl) (fun j h5 h6 => by rw [e4, tz_si_k h5, e2, tz_si_k h6, g1 164 (by decide)]) (by rw [e4, tz_si_k (by decide), e2, tz_si_a]) (by rw [e4, tz_si_a, c1]; rfl) (by omega) (by omega) (by rw [c1]; rfl) (fun i hi => by omega)
  · rw [tz_x2 c1]
    refine fin m1 (M.1 164 6) n (fun a _ => rfl) rfl (fun j _ _ => by rw [g1 164 (by decide)]) (by rw [g1 164 (by decide)]) (by rw [g1 164 (by decide), c0]) cx (by omega) (by rw [if_pos (by omega)]) (fun i hi => rfl)
theorem tm_undo (hH : tz_HM M n h) (h0 : n = 0 → Q 0 (ts_si (ts_si M 164 0 0) 164 0 1)) (h1 : n ≠ 0 → ∀ M' : ts_M, tz_fr (fun a => a = 164 ∨ a = 165) M M' → M'.1 164 0 = 0 → (∀ j : Int, j ≠ 0 → j ≠ 5 → M'.1 164 j = M.1 164 j) → tz_E (h 0) (M'.1 165) → tz_HM M' (n - 1) (fun i => h (i + 1)) → Q (n - 1) M') : wX12_undo Q M := by
  obtain ⟨c0, cn, cx, ch⟩ := hH
  unfold wX12_undo
  intro m1 e1
  have q1 : m1.1 164 5 = n := by rw [e1, tz_si_k (by decide), c0]
  rw [q1, tz_n (x := n) (by omega) (by omega)]
  by_cases c1 : n = 0
  · rw [tz_y2 c1]
    unfold wX12_fails
    intro m2 e2
    rw [e2, e1]; exact h0 c1
  · rw [tz_x2 c1]
    intro m2 e2 x ex y ey
    have q2 : m2.1 164 5 = n - 1 := by rw [e2, tz_si_a]
    have q6 : m2.1 164 6 = M.1 164 6 := by rw [e2, tz_si_k (by decide), e1, tz_si_k (by decide)]
    rw [q2, q6, tz_rem (by omega) (by omega) (by omega) (by omega)] at ex
    have g2 : ∀ a : Nat, a ≠ 164 → m2.1 a = M.1 a := fun a h => by rw [e2, ts_si_ne h, e1, ts_si_ne h]
    have l2 : m2.2 = M.2 := by rw [e2, e1]; rfl
    refine tz_ex2 (fun d z v m => z = x ∧ m = tz_cpo m2 166 (146 * x) 165 0 v ∧ 0 ≤ v ∧ v ≤ 146 ∧ d = (146 - v).toNat) 146 ⟨rfl, by rw [ey]; exact (Eq.symm tz_cpo_0), by omega, by omega, by omega⟩ ?_
    rintro k d z v m ⟨rfl, e, i1, i2, rfl⟩ hk
    simp only [wX12_undo_L43, forall_eq]
    rw [tz_n (x := v) (by omega) (by omega)]
    by_cases c2 : 146 ≤ v
    · rw [tz_y c2]
      have g3 : ∀ a : Nat, a ≠ 165 → m.1 a = m2.1 a := fun a h => by rw [e, tz_cpo_o h]
      have l3 : m.2 = m2.2 := by rw [e]; rfl
      rw [g3 164 (by decide), q2]
      refine h1 c1 m ⟨fun a h2 => ?_, by rw [l3, l2]⟩ ?_ (fun j h5 h6 => ?_) (fun j h3 h4 => ?_) ⟨?_, by omega, ?_, fun i hi j h3 h4 => ?_⟩
      · have h3 : a ≠ 164 := fun h3 => h2 (Or.inl h3)
        have h4 : a ≠ 165 := fun h3 => h2 (Or.inr h3)
        exact ⟨by rw [g3 _ h4, g2 _ h3], by rw [l3, l2]⟩
      · rw [g3 164 (by decide), e2, tz_si_k (by decide), e1, tz_si_a]
      · rw [g3 164 (by decide), e2, tz_si_k h6, e1, tz_si_k h5]
      · have h5 := ch 0 (by omega) j h3 h4
        have h6 := tz_cpo_i (M := m2) (a1 := 166) (o1 := 146 * z) (a2 := 165) (o2 := 0) (n := v) h3 (by omega)
        rw [Int.zero_add] at h6
        rw [e, h6, g2 166 (by decide), ← h5, ex]
        rw [show M.1 164 6 + n - 1 - ((0 : Nat) : Int) = M.1 164 6 + (n - 1) by omega]
      · rw [g3 164 (by decide), q2]
      · rw [g3 164 (by decide), q6]; exact cx
      · rw [g3 164 (by decide), g3 166 (by decide), q6, g2 166 (by decide)]
        rw [show M.1 164 6 + (n - 1) - 1 - (i : Int) = M.1 164 6 + n - 1 - ((i + 1 : Nat) : Int) by omega]
        exact ch (i + 1) (by omega) j h3 h4
    · rw [tz_x c2, tz_n (x := 146 * z + v) (by omega) (by omega), tz_p ⟨by omega, by omega⟩, tz_p ⟨by omega, by omega⟩]
      refine hk (146 - (v + 1)).toNat _ _ _ (by omega) ⟨rfl, ?_, by omega, by omega, rfl⟩
      rw [e, tz_cpo_o (by decide), ← tz_cpo_s i1, Int.zero_add]
end TZN
