/-! ===== the class's search over orders, and its best order ===== -/
def tz_m2 (x y : Int) : Int := if y < x then y else x
def tz_fo (s : Nat → Nat → Int) (n a : Nat) (sm kn : Int) : Nat → Int
  | 0 => kn
  | k + 1 => if a.testBit k then tz_m2 (tz_fo s n a sm kn k) (sm + tz_gf s n a k) else tz_fo s n a sm kn k
/-- the first of the best order of a set -/
def tz_w1 (s : Nat → Nat → Int) (n : Nat) (id : Nat → Int) (a f : Nat) : Prop := f < n ∧ a.testBit f = true ∧ tz_gf s n a f = tz_G s n a ∧ ∀ e : Nat, e < n → a.testBit e = true → tz_gf s n a e = tz_G s n a → id f ≤ id e
noncomputable def tz_bq (s : Nat → Nat → Int) (n : Nat) (id : Nat → Int) (a : Nat) : Nat := @dite _ (∃ f : Nat, tz_w1 s n id a f) (Classical.propDecidable _) (fun h => Classical.choose h) (fun _ => 0)
noncomputable def tz_lv (s : Nat → Nat → Int) (n : Nat) (id : Nat → Int) : Nat → Nat
  | 0 => 2 ^ n - 1
  | k + 1 => tz_dl (tz_lv s n id k) (tz_bq s n id (tz_lv s n id k))
/-- the list's ids -/
def tz_ID (id : Nat → Int) (n : Nat) : Prop := (∀ i : Nat, i < n → 0 ≤ id i ∧ id i ≤ 1000000000) ∧ ∀ i j : Nat, i < n → j < n → id i = id j → i = j
section TZO
variable {a b c k j n f : Nat} {Q : Int → ts_M → Prop} {Qv : ts_M → Prop} {M : ts_M} {s : Nat → Nat → Int} {id : Nat → Int} {sm kn pl : Int}
theorem tz_m2_or {x y : Int} : (y < x ∧ tz_m2 x y = y) ∨ (x ≤ y ∧ tz_m2 x y = x) := by
  unfold tz_m2
  by_cases h : y < x
  · exact Or.inl ⟨h, if_pos h⟩
  · exact Or.inr ⟨by omega, if_neg h⟩
theorem tz_fo_le : ∀ {m : Nat}, tz_fo s n a sm kn m ≤ kn ∧ (∀ f : Nat, f < m → a.testBit f = true → tz_fo s n a sm kn m ≤ sm + tz_gf s n a f) ∧ (tz_fo s n a sm kn m = kn ∨ ∃ f : Nat, f < m ∧ a.testBit f = true ∧ tz_fo s n a sm kn m = sm + tz_gf s n a f)
  | 0 => ⟨Int.le_refl _, fun f h => absurd h (Nat.not_lt_zero f), Or.inl rfl⟩
  | m + 1 => by
    obtain ⟨h1, h2, h3⟩ := tz_fo_le (m := m)
    have e : tz_fo s n a sm kn (m + 1) = if a.testBit m then tz_m2 (tz_fo s n a sm kn m) (sm + tz_gf s n a m) else tz_fo s n a sm kn m := rfl
    rw [e]
    cases hc : a.testBit m
    · rw [if_neg (by decide)]
      refine ⟨h1, fun f hf hb => ?_, ?_⟩
      · by_cases c1 : f = m
        · rw [c1, hc] at hb; cases hb
        · exact h2 f (by omega) hb
      · rcases h3 with h | ⟨f, h4, h5, h6⟩
        · exact Or.inl h
        · exact Or.inr ⟨f, by omega, h5, h6⟩
    · rw [if_pos rfl]
      rcases tz_m2_or (x := tz_fo s n a sm kn m) (y := sm + tz_gf s n a m) with ⟨g1, g2⟩ | ⟨g1, g2⟩
      · rw [g2]
        refine ⟨by omega, fun f hf hb => ?_, Or.inr ⟨m, by omega, hc, rfl⟩⟩
        by_cases c1 : f = m
        · rw [c1]; omega
        · have := h2 f (by omega) hb; omega
      · rw [g2]
        refine ⟨h1, fun f hf hb => ?_, ?_⟩
        · by_cases c1 : f = m
          · rw [c1]; exact g1
          · exact h2 f (by omega) hb
        · rcases h3 with h | ⟨f, h4, h5, h6⟩
          · exact Or.inl h
          · exact Or.inr ⟨f, by omega, h5, h6⟩
theorem tz_fo_6 (hs : tz_sv s n) (hn : n ≤ 6) (ha : a < 2 ^ n) (h0 : a ≠ 0) : tz_fo s n a sm kn 6 = tz_m2 kn (sm + tz_G s n a) := by
  obtain ⟨h1, h2, h3⟩ := tz_fo_le (s := s) (n := n) (a := a) (sm := sm) (kn := kn) (m := 6)
  obtain ⟨⟨f, hf, hb, hg⟩, hm⟩ := tz_G_min hs hn ha h0
  have h4 := h2 f (by omega) hb
  rcases tz_m2_or (x := kn) (y := sm + tz_G s n a) with ⟨g1, g2⟩ | ⟨g1, g2⟩
  · rw [g2]
    rcases h3 with h | ⟨e, h5, h6, h7⟩
    · omega
    · have := hm e (tz_s_mem hn ha h5 h6) h6; omega
  · rw [g2]
    rcases h3 with h | ⟨e, h5, h6, h7⟩
    · exact h
    · have := hm e (tz_s_mem hn ha h5 h6) h6; omega
theorem tc_from (hS : tz_SV s n M) : ∀ (m : Nat) {a : Nat} {pl sm kn : Int} {Q : Int → ts_M → Prop}, a < 2 ^ n → tz_pc a < m → (0 ≤ pl ∧ pl + (tz_pc a : Int) ≤ 6) → (0 ≤ sm ∧ sm + 432 * (tz_pc a : Int) ≤ 2592) → (0 ≤ kn ∧ kn ≤ 1000000) → Q (tz_m2 kn (sm + tz_G s n a)) M → wX5_fewestFrom m pl (a : Int) sm kn Q M
  | 0, a, pl, sm, kn, Q, _, h, _, _, _, _ => absurd h (Nat.not_lt_zero _)
  | m + 1, a, pl, sm, kn, Q, ha, hm, hpl, hsm, hkn, hQ => by
    have hn := hS.2.1
    have hs := hS.2.2.1
    have h64 := tz_s_64 hn ha
    have hG := tz_G_r hs hn ha
    show wX5_fewestFrom_F (wX5_fewestFrom m) pl (a : Int) sm kn Q M
    simp only [wX5_fewestFrom_F, wX5_fewestFrom_B19, forall_eq]
    rw [tz_n (x := sm) (by omega) (by omega), tz_n (x := kn) (by omega) (by omega), tz_n (x := pl) (by omega) (by omega), tz_n (x := (a : Int)) (by omega) (by omega)]
    by_cases c1 : sm < kn
    · rw [tz_y c1]
      by_cases c2 : a = 0
      · rw [tz_y (by omega)]
        rw [c2, tz_G_0, Int.add_zero] at hQ
        rw [show tz_m2 kn sm = sm from if_pos c1] at hQ
        exact hQ
      · have hp0 : tz_pc a ≠ 0 := fun h => c2 (tz_s_pz h64 h)
        rw [tz_x (by omega), tz_y (by omega)]
        refine tz_ex5 (fun d x1 x2 x3 x4 x5 mm => ∃ k : Nat, x1 = pl ∧ x2 = (a : Int) ∧ x3 = sm ∧ x4 = tz_fo s n a sm kn k ∧ x5 = (k : Int) ∧ M = mm ∧ k + d = 6) 6 ⟨0, rfl, rfl, rfl, rfl, rfl, rfl, by omega⟩ ?_
        rintro k0 d x1 x2 x3 x4 x5 mm ⟨k, rfl, rfl, rfl, rfl, rfl, rfl, hd⟩ hk
        simp only [wX5_fewestFrom_L28, wX5_fewestFrom_B81, forall_eq]
        rw [tz_n (x := (k : Int)) (by omega) (by omega)]
        by_cases c3 : k = 6
        · rw [tz_y (by omega), c3, tz_fo_6 hs hn ha c2]; exact hQ
        · rw [tz_x (by omega), tc_isIn h64 (by omega), tz_iw, tz_iz]
          have hst : tz_fo s n a x3 kn (k + 1) = if a.testBit k then tz_m2 (tz_fo s n a x3 kn k) (x3 + tz_gf s n a k) else tz_fo s n a x3 kn k := rfl
          cases hc : a.testBit k
          · rw [hc, if_neg (by decide)] at hst
            rw [tz_y rfl]
            exact hk (d - 1) _ _ _ _ _ _ (by omega) ⟨k + 1, rfl, rfl, rfl, hst.symm, by omega, rfl, by omega⟩
          · rw [hc, if_pos rfl] at hst
            have hkn2 := tz_s_mem hn ha (by omega) hc
            have hpc := tz_s_pc h64 (k := k) (by omega) hc
            have hdr := tz_dis_rng hs hkn2 (a := tz_dl a k) (fun k hk hb => tz_s_mem hn (tz_s_dlt hn ha) hk hb) (m := 6) (Nat.le_refl 6)
            have hfo := tz_fo_le (s := s) (n := n) (a := a) (sm := x3) (kn := kn) (m := k)
            have hfo0 : 0 ≤ tz_fo s n a x3 kn k := by
              rcases hfo.2.2 with h | ⟨f, h1, h2, h3⟩
              · omega
              · have := tz_gf_r hs hn ha (f := f) (by omega); omega
            rw [tz_x (by decide), tz_s_dl h64 (by omega)]
            refine tc_dis hS hkn2 (tz_s_dlt hn ha) ?_
            refine tc_from hS m (tz_s_dlt hn ha) (by omega) ⟨by omega, by omega⟩ ⟨by omega, by omega⟩ ⟨hfo0, by omega⟩ ?_
            refine hk (d - 1) _ _ _ _ _ _ (by omega) ⟨k + 1, rfl, rfl, rfl, ?_, by omega, rfl, by omega⟩
            rw [hst]
            unfold tz_gf
            rw [show x3 + (tz_G s n (tz_dl a k) + tz_dis s k (tz_dl a k) 6) = x3 + tz_dis s k (tz_dl a k) 6 + tz_G s n (tz_dl a k) by omega]
    · rw [tz_x c1]
      rw [show tz_m2 kn (sm + tz_G s n a) = kn from if_neg (by omega)] at hQ
      exact hQ
theorem tc_byTrying (hS : tz_SV s n M) (hQ : Q (tz_G s n (2 ^ n - 1)) M) : wX5_fewestByTrying Q M := by
  have hn := hS.2.1
  have hp := tz_s_p1 hn
  have h6 := tz_s_pc6 (a := 2 ^ n - 1)
  have hG := tz_G_r hS.2.2.1 hn (a := 2 ^ n - 1) (by omega)
  unfold wX5_fewestByTrying
  rw [tc_allPlaces hS]
  refine tc_from hS 7 (by omega) (by omega) ⟨by omega, by omega⟩ ⟨by omega, by omega⟩ ⟨by omega, by omega⟩ ?_
  rw [show tz_m2 1000000 (0 + tz_G s n (2 ^ n - 1)) = tz_G s n (2 ^ n - 1) by rw [Int.zero_add]; exact if_pos (by omega)]
  exact hQ
/-! the best order -/
theorem tz_bq_eq (hI : tz_ID id n) (h : tz_w1 s n id a f) : tz_bq s n id a = f := by
  have h1 : ∃ f : Nat, tz_w1 s n id a f := ⟨f, h⟩
  unfold tz_bq
  rw [dif_pos h1]
  obtain ⟨e1, e2, e3, e4⟩ := Classical.choose_spec h1
  obtain ⟨f1, f2, f3, f4⟩ := h
  refine hI.2 _ _ e1 f1 (Int.le_antisymm (e4 f f1 f2 f3) (f4 _ e1 e2 e3))
theorem tc_bestFirst (hS : tz_SV s n M) (hT : tz_TB s n 64 M) (hI : tz_ID id n) (hid : ∀ i : Nat, i < n → M.1 (b + 7) (i : Int) = id i) (ha : a < 2 ^ n) (h0 : a ≠ 0) (hQ : ∀ f : Nat, tz_w1 s n id a f → Q (f : Int) M) : wX5_bestFirst b (a : Int) Q M := by
  have hn := hS.2.1
  have hs := hS.2.2.1
  have h64 := tz_s_64 hn ha
  have hGr := tz_G_r hs hn ha
  simp only [wX5_bestFirst, forall_eq]
  refine tz_ex3 (fun d x1 x2 x3 m => ∃ k : Nat, x1 = (a : Int) ∧ ((x2 = -1 ∧ ∀ e : Nat, e < k → a.testBit e = true → tz_gf s n a e ≠ tz_G s n a) ∨ ∃ f : Nat, x2 = (f : Int) ∧ f < k ∧ a.testBit f = true ∧ tz_gf s n a f = tz_G s n a ∧ ∀ e : Nat, e < k → a.testBit e = true → tz_gf s n a e = tz_G s n a → id f ≤ id e) ∧ x3 = (k : Int) ∧ m = M ∧ k + d = n) n ⟨0, rfl, Or.inl ⟨rfl, fun e h => absurd h (Nat.not_lt_zero e)⟩, rfl, rfl, by omega⟩ ?_
  rintro k0 d x1 x2 x3 m ⟨k, rfl, hx, rfl, rfl, hd⟩ hk
  have hx2 : -1 ≤ x2 ∧ x2 < (k : Int) := by
    rcases hx with ⟨h, -⟩ | ⟨f, h, h2, -⟩ <;> omega
  simp only [wX5_bestFirst_L5, wX5_bestFirst_B63, wX5_bestFirst_B60, forall_eq]
  rw [hS.1, tz_n (x := (k : Int)) (by omega) (by omega), tz_n (x := (n : Int)) (by omega) (by omega)]
  by_cases c1 : k = n
  · rw [tz_y (by omega)]
    rcases hx with ⟨h1, h2⟩ | ⟨f, h1, h2, h3, h4, h5⟩
    · obtain ⟨⟨f, hf, hb, hg⟩, -⟩ := tz_G_min hs hn ha h0
      exact absurd hg (h2 f (by omega) hb)
    · rw [h1]
      exact hQ f ⟨by omega, h3, h4, fun e he => h5 e (by omega)⟩
  · rw [tz_x (by omega), tc_isIn h64 (by omega), tz_iw, tz_iz]
    have hsk : ∀ (h : a.testBit k = true → tz_gf s n a k = tz_G s n a → False), k0 (a : Int) x2 ((k : Int) + 1) m := fun h => by
      refine hk (d - 1) _ _ _ _ (by omega) ⟨k + 1, rfl, ?_, by omega, rfl, by omega⟩
      rcases hx with ⟨h1, h2⟩ | ⟨f, h1, h2, h3, h4, h5⟩
      · refine Or.inl ⟨h1, fun e he hb hg => ?_⟩
        by_cases c2 : e = k
        · rw [c2] at hb hg; exact h hb hg
        · exact h2 e (by omega) hb hg
      · refine Or.inr ⟨f, h1, by omega, h3, h4, fun e he hb hg => ?_⟩
        by_cases c2 : e = k
        · rw [c2] at hb hg; exact (h hb hg).elim
        · exact h5 e (by omega) hb hg
    cases hc : a.testBit k
    · rw [tz_y rfl]
      exact hsk (fun h => by rw [hc] at h; cases h)
    · rw [tz_x (by decide)]
      refine tc_fwf hS hT (by omega) ha (by omega) hc ?_
      have hgr := tz_gf_r hs hn ha (f := k) (by omega)
      rw [tz_n (x := tz_gf s n a k) (by omega) (by omega), tz_n (x := (a : Int)) (by omega) (by omega), hT a h64 ha, tz_n (x := tz_G s n a) (by omega) (by omega), tz_n (x := x2) (by omega) (by omega), tz_p ⟨by omega, by omega⟩]
      by_cases c3 : tz_gf s n a k = tz_G s n a
      · rw [tz_y2 c3]
        rcases hx with ⟨h1, h2⟩ | ⟨f, h1, h2, h3, h4, h5⟩
        · rw [tz_y h1]
          exact hk (d - 1) _ _ _ _ (by omega) ⟨k + 1, rfl, Or.inr ⟨k, rfl, by omega, hc, c3, fun e he hb hg => by
            by_cases c2 : e = k
            · rw [c2]; exact Int.le_refl _
            · exact absurd hg (h2 e (by omega) hb)⟩, by omega, rfl, by omega⟩
        · have i1 := hI.1 f (by omega)
          have i2 := hI.1 k (by omega)
          rw [tz_x (by omega), tz_p ⟨by omega, by omega⟩, tz_p ⟨by omega, by omega⟩, h1, hid f (by omega), hid k (by omega), tz_n (x := id f) (by omega) (by omega), tz_n (x := id k) (by omega) (by omega)]
          by_cases c4 : id f ≤ id k
          · rw [tz_y c4]
            refine hk (d - 1) _ _ _ _ (by omega) ⟨k + 1, rfl, Or.inr ⟨f, rfl, by omega, h3, h4, fun e he hb hg => ?_⟩, by omega, rfl, by omega⟩
            by_cases c2 : e = k
            · rw [c2]; exact c4
            · exact h5 e (by omega) hb hg
          · rw [tz_x c4]
            refine hk (d - 1) _ _ _ _ (by omega) ⟨k + 1, rfl, Or.inr ⟨k, rfl, by omega, hc, c3, fun e he hb hg => ?_⟩, by omega, rfl, by omega⟩
            by_cases c2 : e = k
            · rw [c2]; exact Int.le_refl _
            · have := h5 e (by omega) hb hg; omega
      · rw [tz_x2 c3]
        exact hsk (fun _ h => c3 h)
/-- there is a first of the best order -/
theorem tz_w1_ex (hs : tz_sv s n) (hn : n ≤ 6) (ha : a < 2 ^ n) (h0 : a ≠ 0) : ∃ f : Nat, tz_w1 s n id a f := by
  have h1 : ∀ m : Nat, m ≤ n → (∀ e : Nat, e < m → a.testBit e = true → tz_gf s n a e ≠ tz_G s n a) ∨ ∃ f : Nat, f < m ∧ a.testBit f = true ∧ tz_gf s n a f = tz_G s n a ∧ ∀ e : Nat, e < m → a.testBit e = true → tz_gf s n a e = tz_G s n a → id f ≤ id e := by
    intro m
    induction m with
    | zero => intro _; exact Or.inl (fun e h => absurd h (Nat.not_lt_zero e))
    | succ m ih =>
      intro hm
      by_cases c1 : a.testBit m = true ∧ tz_gf s n a m = tz_G s n a
      · right
        rcases ih (by omega) with h | ⟨f, h2, h3, h4, h5⟩
        · refine ⟨m, by omega, c1.1, c1.2, fun e he hb hg => ?_⟩
          by_cases c2 : e = m
          · rw [c2]; exact Int.le_refl _
          · exact absurd hg (h e (by omega) hb)
        · by_cases c3 : id f ≤ id m
          · refine ⟨f, by omega, h3, h4, fun e he hb hg => ?_⟩
            by_cases c2 : e = m
            · rw [c2]; exact c3
            · exact h5 e (by omega) hb hg
          · refine ⟨m, by omega, c1.1, c1.2, fun e he hb hg => ?_⟩
            by_cases c2 : e = m
            · rw [c2]; exact Int.le_refl _
            · have := h5 e (by omega) hb hg; omega
      · rcases ih (by omega) with h | ⟨f, h2, h3, h4, h5⟩
        · refine Or.inl (fun e he hb hg => ?_)
          by_cases c2 : e = m
          · rw [c2] at hb hg; exact c1 ⟨hb, hg⟩
          · exact h e (by omega) hb hg
        · refine Or.inr ⟨f, by omega, h3, h4, fun e he hb hg => ?_⟩
          by_cases c2 : e = m
          · rw [c2] at hb hg; exact (c1 ⟨hb, hg⟩).elim
          · exact h5 e (by omega) hb hg
  rcases h1 n (Nat.le_refl n) with h | ⟨f, h2, h3, h4, h5⟩
  · obtain ⟨⟨f, hf, hb, hg⟩, -⟩ := tz_G_min hs hn ha h0
    exact absurd hg (h f hf hb)
  · exact ⟨f, h2, h3, h4, h5⟩
theorem tz_pc_full (hn : n ≤ 6) : tz_pc (2 ^ n - 1) = n := by
  have h : ∀ n : Fin 7, tz_pc (2 ^ n.val - 1) = n.val := by decide +kernel
  exact h ⟨n, by omega⟩
theorem tz_lv_pc (hI : tz_ID id n) (hs : tz_sv s n) (hn : n ≤ 6) : ∀ {k : Nat}, k ≤ n → tz_pc (tz_lv s n id k) = n - k ∧ tz_lv s n id k < 2 ^ n
  | 0, _ => by
    have := tz_s_p1 hn
    exact ⟨tz_pc_full hn, by show 2 ^ n - 1 < _; omega⟩
  | k + 1, h => by
    obtain ⟨h1, h2⟩ := tz_lv_pc hI hs hn (k := k) (by omega)
    have h3 : tz_lv s n id k ≠ 0 := fun h4 => by
      rw [h4] at h1
      have : tz_pc 0 = 0 := rfl
      omega
    obtain ⟨f, hf⟩ := tz_w1_ex hs hn h2 h3
    show tz_pc (tz_dl (tz_lv s n id k) (tz_bq s n id (tz_lv s n id k))) = _ ∧ tz_dl (tz_lv s n id k) (tz_bq s n id (tz_lv s n id k)) < _
    rw [tz_bq_eq hI hf]
    have := (tz_s_pc (tz_s_64 hn h2) (k := f) (by have := hf.1; omega) hf.2.1).1
    exact ⟨by omega, tz_s_dlt hn h2⟩
theorem tz_lv_bo (hI : tz_ID id n) (hs : tz_sv s n) (hn : n ≤ 6) (hk : k < n) : tz_lv s n id k ≠ 0 ∧ tz_lv s n id k < 2 ^ n ∧ tz_w1 s n id (tz_lv s n id k) (tz_bq s n id (tz_lv s n id k)) := by
  obtain ⟨h1, h2⟩ := tz_lv_pc hI hs hn (k := k) (by omega)
  have h3 : tz_lv s n id k ≠ 0 := fun h4 => by
    rw [h4] at h1
    have : tz_pc 0 = 0 := rfl
    omega
  obtain ⟨f, hf⟩ := tz_w1_ex hs hn h2 h3
  refine ⟨h3, h2, ?_⟩
  rw [tz_bq_eq hI hf]
  exact hf
theorem tc_inBest (hS : tz_SV s n M) (hI : tz_ID id n) (hid : ∀ i : Nat, i < n → M.1 (b + 7) (i : Int) = id i) (hb : b + 7 < 150) (hk : k < n) (hQ : ∀ M' : ts_M, tz_fr (fun a => a = 157) M M' → Q (id (tz_bq s n id (tz_lv s n id k))) M') : wX5_idInBestOrder b (k : Int) Q M := by
  have hn := hS.2.1
  have hs := hS.2.2.1
  have hp := tz_s_p1 hn
  unfold wX5_idInBestOrder
  refine tc_byTable hS (fun M' hF hT => ?_)
  have hSm : tz_SV s n M' := tz_SV_c hS (hF.1 155 (by decide)).1 (hF.1 156 (by decide)).1
  have hidm : ∀ i : Nat, i < n → M'.1 (b + 7) (i : Int) = id i := fun i hi => by rw [(hF.1 (b + 7) (by omega)).1]; exact hid i hi
  rw [tc_allPlaces hSm]
  simp only [forall_eq]
  refine tz_ex4 (fun d x1 x2 x3 x4 m => ∃ j : Nat, x1 = (k : Int) ∧ x2 = ((tz_lv s n id j : Nat) : Int) ∧ (j ≠ 0 → x3 = id (tz_bq s n id (tz_lv s n id (j - 1)))) ∧ x4 = (j : Int) ∧ m = M' ∧ j + d = k + 1) (k + 1) ⟨0, rfl, rfl, fun h => absurd rfl h, rfl, rfl, by omega⟩ ?_
  rintro k0 d x1 x2 x3 x4 m ⟨j, rfl, rfl, hx, rfl, rfl, hd⟩ hk
  simp only [wX5_idInBestOrder_L16, wX5_idInBestOrder_B71, forall_eq]
  rw [hSm.1, tz_n (x := (k : Int)) (by omega) (by omega), tz_n (x := (j : Int)) (by omega) (by omega), tz_n (x := (n : Int)) (by omega) (by omega)]
  by_cases c1 : j = k + 1
  · rw [tz_y (by omega)]
    rw [hx (by omega), c1]
    exact hQ m hF
  · rw [tz_x (by omega), tz_x (by omega)]
    obtain ⟨h1, h2, h3⟩ := tz_lv_bo (k := j) hI hs hn (by omega)
    refine tc_bestFirst hSm hT hI hidm h2 h1 (fun f hf => ?_)
    have hfe := tz_bq_eq hI hf
    have hfn := hf.1
    rw [tz_n (x := (f : Int)) (by omega) (by omega), tz_x2 (by omega), tz_p ⟨by omega, by omega⟩]
    rw [hidm f hfn, tz_s_dl (tz_s_64 hn h2) (by omega)]
    refine hk (d - 1) _ _ _ _ _ (by omega) ⟨j + 1, rfl, ?_, fun _ => ?_, by omega, rfl, by omega⟩
    · show _ = ((tz_dl (tz_lv s n id j) (tz_bq s n id (tz_lv s n id j)) : Nat) : Int)
      rw [hfe]
    · rw [show j + 1 - 1 = j by omega, hfe]
end TZO
