/-! ===== the top of the list, in two ways, and the reference's ===== -/
/-- a set beats all outside -/
def tz_ba (s : Nat → Nat → Int) (n a : Nat) : Prop := ∀ i j : Nat, i < n → j < n → a.testBit i = true → a.testBit j = false → s j i < s i j
/-- the smallest such set -/
def tz_tp (s : Nat → Nat → Int) (n r : Nat) : Prop := r < 2 ^ n ∧ (n ≠ 0 → r ≠ 0) ∧ tz_ba s n r ∧ ∀ a : Nat, a < 2 ^ n → a ≠ 0 → tz_ba s n a → tz_pc r ≤ tz_pc a
/-- a set that no step leaves -/
def tz_cz (s : Nat → Nat → Int) (n a : Nat) : Prop := ∀ x y : Nat, x < n → y < n → a.testBit x = true → ¬ (s x y < s y x) → a.testBit y = true
def tz_rc (s : Nat → Nat → Int) (n p a : Nat) : Prop := ∀ C : Nat, C < 2 ^ n → C.testBit p = true → tz_cz s n C → ∀ k : Nat, k < 6 → a.testBit k = true → C.testBit k = true
section TZT
variable {B p : Int} {a b c k j n f r : Nat} {Q : Int → ts_M → Prop} {Qv : ts_M → Prop} {M : ts_M} {w : Int → Int} {s : Nat → Nat → Int}
theorem tz_pc_le (hn : n ≤ 6) (ha : a < 2 ^ n) : tz_pc a ≤ tz_pc (2 ^ n - 1) := by
  have hp := tz_s_p1 hn
  by_cases h : a = 2 ^ n - 1
  · rw [h]; exact Nat.le_refl _
  · exact Nat.le_of_lt (tz_s_lt (tz_s_64 hn ha) (by omega) (fun k hk hb => by rw [tz_s_full hn hk]; exact decide_eq_true (tz_s_mem hn ha hk hb)) h)
theorem tz_ba_nest (hn : n ≤ 6) (h1 : a < 2 ^ n) (h2 : b < 2 ^ n) (ha : tz_ba s n a) (hb : tz_ba s n b) : (∀ k : Nat, k < 6 → a.testBit k = true → b.testBit k = true) ∨ ∀ k : Nat, k < 6 → b.testBit k = true → a.testBit k = true := by
  apply Classical.byContradiction
  intro h
  have h3 : ¬ (∀ k : Nat, k < 6 → a.testBit k = true → b.testBit k = true) := fun g => h (Or.inl g)
  have h4 : ¬ (∀ k : Nat, k < 6 → b.testBit k = true → a.testBit k = true) := fun g => h (Or.inr g)
  refine h3 (fun x hx hax => ?_)
  cases hbx : b.testBit x
  · refine absurd (fun y hy hby => ?_) h4
    cases hay : a.testBit y
    · have g1 := ha x y (tz_s_mem hn h1 hx hax) (tz_s_mem hn h2 hy hby) hax hay
      have g2 := hb y x (tz_s_mem hn h2 hy hby) (tz_s_mem hn h1 hx hax) hby hbx
      omega
    · rfl
  · rfl
theorem tz_tp_one (hn : n ≤ 6) (h1 : tz_tp s n a) (h2 : tz_tp s n b) : a = b := by
  by_cases h0 : n = 0
  · have e1 := h1.1; have e2 := h2.1
    rw [h0] at e1 e2
    omega
  · apply Classical.byContradiction
    intro hne
    have g1 := h1.2.2.2 b h2.1 (h2.2.1 h0) h2.2.2.1
    have g2 := h2.2.2.2 a h1.1 (h1.2.1 h0) h1.2.2.1
    rcases tz_ba_nest hn h1.1 h2.1 h1.2.2.1 h2.2.2.1 with h | h
    · have := tz_s_lt (tz_s_64 hn h1.1) (tz_s_64 hn h2.1) h hne; omega
    · have := tz_s_lt (tz_s_64 hn h2.1) (tz_s_64 hn h1.1) h (fun e => hne e.symm); omega
theorem tz_ba_full (hn : n ≤ 6) : tz_ba s n (2 ^ n - 1) := fun i j hi hj _ h2 => by
  rw [tz_s_full hn (by omega)] at h2
  exact absurd (decide_eq_false_iff_not.mp h2) (fun g => g hj)
/-- all that is outside a set -/
theorem tz_xo (hn : n ≤ 6) (hk : k < 6) : ((2 ^ n - 1) ^^^ a).testBit k = (decide (k < n) ^^ a.testBit k) := by rw [Nat.testBit_xor, tz_s_full hn hk]
theorem tz_xo_lt (hn : n ≤ 6) (ha : a < 2 ^ n) : (2 ^ n - 1) ^^^ a < 2 ^ n := Nat.xor_lt_two_pow (by have := tz_s_p1 hn; omega) ha
/-- following steps from p leads to all if and only if p is in the top -/
theorem tz_leads (hn : n ≤ 6) (hT : tz_tp s n r) (hp : f < n) (ha : a < 2 ^ n) (hb : a.testBit f = true) (hc : tz_cz s n a) (hr : tz_rc s n f a) : a = 2 ^ n - 1 ↔ r.testBit f = true := by
  have h1 := tz_s_p1 hn
  obtain ⟨t1, t2, t3, t4⟩ := hT
  constructor
  · intro he
    cases hrf : r.testBit f
    · exfalso
      obtain ⟨k, hk, hkb⟩ := tz_s_bit (tz_s_64 hn t1) (t2 (by omega))
      have hkn := tz_s_mem hn t1 hk hkb
      have g := hr ((2 ^ n - 1) ^^^ r) (tz_xo_lt hn t1) (by rw [tz_xo hn (by omega), hrf, decide_eq_true hp]; rfl) (fun x y hx hy hbx hs => by
        rw [tz_xo hn (by omega), decide_eq_true hx] at hbx
        rw [tz_xo hn (by omega), decide_eq_true hy]
        cases hry : r.testBit y
        · rfl
        · have hrx : r.testBit x = false := by cases hh : r.testBit x; rfl; rw [hh] at hbx; cases hbx
          exact absurd (t3 y x hy hx hry hrx) hs) k hk (by rw [he, tz_s_full hn hk]; exact decide_eq_true hkn)
      rw [tz_xo hn hk, decide_eq_true hkn, hkb] at g
      cases g
    · rfl
  · intro hrf
    apply Classical.byContradiction
    intro hne
    have d1 := tz_xo_lt hn ha
    have d0 : (2 ^ n - 1) ^^^ a ≠ 0 := fun h => hne (by
      refine tz_s_ext (tz_s_64 hn ha) (by omega) (fun k hk => ?_)
      have g : ((2 ^ n - 1) ^^^ a).testBit k = false := by rw [h]; exact Nat.zero_testBit k
      rw [tz_xo hn hk] at g
      rw [tz_s_full hn hk]
      cases h5 : decide (k < n) <;> cases h6 : a.testBit k <;> rw [h5, h6] at g <;> first | rfl | cases g)
    have d2 : tz_ba s n ((2 ^ n - 1) ^^^ a) := fun i j hi hj h3 h4 => by
      rw [tz_xo hn (by omega), decide_eq_true hi] at h3
      rw [tz_xo hn (by omega), decide_eq_true hj] at h4
      have h5 : a.testBit i = false := by cases hh : a.testBit i; rfl; rw [hh] at h3; cases h3
      have h6 : a.testBit j = true := by cases hh : a.testBit j; rw [hh] at h4; cases h4; rfl
      apply Classical.byContradiction
      intro hs
      rw [hc j i hj hi h6 hs] at h5
      cases h5
    have d3 := t4 _ d1 d0 d2
    rcases tz_ba_nest hn t1 d1 t3 d2 with h | h
    · have g := h f (by omega) hrf
      rw [tz_xo hn (by omega), decide_eq_true hp, hb] at g
      cases g
    · have hne2 : (2 ^ n - 1) ^^^ a ≠ r := fun he => by
        have g : ((2 ^ n - 1) ^^^ a).testBit f = true := by rw [he]; exact hrf
        rw [tz_xo hn (by omega), decide_eq_true hp, hb] at g
        cases g
      have := tz_s_lt (tz_s_64 hn d1) (tz_s_64 hn t1) h hne2
      omega
/-! the class -/
theorem tc_beats (hS : tz_SV s n M) (hk : k < n) (hj : j < n) (h1 : s j k < s k j → Q 1 M) (h0 : ¬ (s j k < s k j) → Q 0 M) : wX5_beats (k : Int) (j : Int) Q M := by
  obtain ⟨e1, hn, hs, hm⟩ := hS
  have r1 := hs k j hk hj
  have r2 := hs j k hj hk
  simp only [wX5_beats, wX5_beats_B30]
  rw [tz_n (x := (k : Int) * 6 + (j : Int)) (by omega) (by omega), tz_n (x := (j : Int) * 6 + (k : Int)) (by omega) (by omega), tz_p ⟨by omega, by omega⟩, tz_p ⟨by omega, by omega⟩]
  rw [show (k : Int) * 6 + (j : Int) = ((k * 6 + j : Nat) : Int) by omega, show (j : Int) * 6 + (k : Int) = ((j * 6 + k : Nat) : Int) by omega, hm k j hk hj, hm j k hj hk, tz_n (x := s k j) (by omega) (by omega), tz_n (x := s j k) (by omega) (by omega)]
  by_cases c : s k j ≤ s j k
  · rw [tz_y c, tz_g0]; exact h0 (by omega)
  · rw [tz_x c, tz_g1]; exact h1 (by omega)
theorem tc_beatsAll (hS : tz_SV s n M) (ha : a < 2 ^ n) (h1 : tz_ba s n a → Q 1 M) (h0 : ¬ tz_ba s n a → Q 0 M) : wX5_beatsAllOutside (a : Int) Q M := by
  have hn := hS.2.1
  have h64 := tz_s_64 hn ha
  simp only [wX5_beatsAllOutside, forall_eq]
  refine tz_ex2 (fun d x1 x2 m => ∃ k : Nat, x1 = (a : Int) ∧ x2 = (k : Int) ∧ m = M ∧ (∀ i j : Nat, i < k → j < n → a.testBit i = true → a.testBit j = false → s j i < s i j) ∧ k + d = n) n ⟨0, rfl, rfl, rfl, fun i j h => absurd h (Nat.not_lt_zero i), by omega⟩ ?_
  rintro k0 d x1 x2 m ⟨k, rfl, rfl, rfl, hI, hd⟩ hk
  simp only [wX5_beatsAllOutside_L2, forall_eq]
  rw [hS.1, tz_n (x := (k : Int)) (by omega) (by omega), tz_n (x := (n : Int)) (by omega) (by omega)]
  by_cases c1 : k = n
  · rw [tz_y (by omega)]
    exact h1 (fun i j hi hj => hI i j (by omega) hj)
  · rw [tz_x (by omega)]
    refine tz_ex3 (fun d2 x1 x2 x3 m2 => ∃ l : Nat, x1 = (a : Int) ∧ x2 = (k : Int) ∧ x3 = (l : Int) ∧ m2 = m ∧ (∀ j : Nat, j < l → a.testBit k = true → a.testBit j = false → s j k < s k j) ∧ l + d2 = n) n ⟨0, rfl, rfl, rfl, rfl, fun j h => absurd h (Nat.not_lt_zero j), by omega⟩ ?_
    rintro k1 d2 x1 x2 x3 m2 ⟨l, rfl, rfl, rfl, rfl, hJ, hd2⟩ hk2
    simp only [wX5_beatsAllOutside_L12, wX5_beatsAllOutside_B47, forall_eq]
    rw [hS.1, tz_n (x := (l : Int)) (by omega) (by omega), tz_n (x := (n : Int)) (by omega) (by omega)]
    by_cases c2 : l = n
    · rw [tz_y (by omega)]
      refine hk (d - 1) _ _ _ (by omega) ⟨k + 1, rfl, by omega, rfl, fun i j hi hj hbi hbj => ?_, by omega⟩
      by_cases c3 : i = k
      · rw [c3] at hbi ⊢; exact hJ j (by omega) hbi hbj
      · exact hI i j (by omega) hj hbi hbj
    · have hgo : (a.testBit k = true → a.testBit l = false → s l k < s k l) → k1 (a : Int) (k : Int) ((l : Int) + 1) m2 := fun h => hk2 (d2 - 1) _ _ _ _ (by omega) ⟨l + 1, rfl, rfl, by omega, rfl, fun j hj hbk hbj => by
        by_cases c3 : j = l
        · rw [c3] at hbj ⊢; exact h hbk hbj
        · exact hJ j (by omega) hbk hbj, by omega⟩
      rw [tz_x (by omega), tc_isIn h64 (by omega), tz_iw, tz_iz]
      cases hbk : a.testBit k
      · rw [tz_y rfl]; exact hgo (fun h => by rw [hbk] at h; cases h)
      · rw [tz_x (by decide), tc_isIn h64 (by omega), tz_iw, tz_iz]
        cases hbl : a.testBit l
        · rw [tz_y2 (by decide)]
          refine tc_beats hS (by omega) (by omega) (fun hs => ?_) (fun hs => ?_)
          · rw [tz_n1, tz_x2 (by decide)]; exact hgo (fun _ _ => hs)
          · rw [tz_n0, tz_y2 (by decide)]; exact h0 (fun hb => hs (hb k l (by omega) (by omega) hbk hbl))
        · rw [tz_x2 (by decide)]; exact hgo (fun _ h => by rw [hbl] at h; cases h)
theorem tc_smallest (hS : tz_SV s n M) (hQ : ∀ r : Nat, tz_tp s n r → Q (r : Int) M) : wX5_smallestTop Q M := by
  have hn := hS.2.1
  have hp := tz_s_p1 hn
  unfold wX5_smallestTop
  rw [tc_allPlaces hS]
  simp only [forall_eq]
  refine tz_ex2 (fun d x1 x2 m => ∃ r k : Nat, x1 = (r : Int) ∧ x2 = (k : Int) ∧ m = M ∧ 1 ≤ k ∧ k ≤ 64 ∧ (r < 2 ^ n ∧ (n ≠ 0 → r ≠ 0) ∧ tz_ba s n r ∧ ∀ a : Nat, a < 2 ^ n → a ≠ 0 → a < k → tz_ba s n a → tz_pc r ≤ tz_pc a) ∧ d = 64 - k) 63 ⟨2 ^ n - 1, 1, rfl, rfl, rfl, by omega, by omega, ⟨by omega, fun h => by
      have : 2 ^ 1 ≤ 2 ^ n := Nat.pow_le_pow_right (by decide) (by omega)
      omega, tz_ba_full hn, fun a _ h2 h3 => by omega⟩, rfl⟩ ?_
  rintro k0 d x1 x2 m ⟨r, k, rfl, rfl, rfl, hk1, hk64, ⟨t1, t2, t3, t4⟩, rfl⟩ hk
  simp only [wX5_smallestTop_L7, wX5_smallestTop_B36, forall_eq]
  rw [tc_allPlaces hS, tz_n (x := (k : Int)) (by omega) (by omega), tz_n (x := ((2 ^ n - 1 : Nat) : Int)) (by omega) (by omega)]
  by_cases c1 : 2 ^ n - 1 ≤ k
  · rw [tz_y (by omega)]
    refine hQ r ⟨t1, t2, t3, fun a ha h0 hb => ?_⟩
    by_cases c2 : a < k
    · exact t4 a ha h0 c2 hb
    · rw [show a = 2 ^ n - 1 by omega]; exact tz_pc_le hn t1
  · have p1 := tz_s_pc6 (a := k)
    have p2 := tz_s_pc6 (a := r)
    have hgo : (tz_ba s n k → tz_pc r ≤ tz_pc k) → k0 (r : Int) ((k : Int) + 1) m := fun h => hk (64 - (k + 1)) _ _ _ (by omega) ⟨r, k + 1, rfl, by omega, rfl, by omega, by omega, ⟨t1, t2, t3, fun a ha h0 hlt hb => by
      by_cases c3 : a = k
      · rw [c3] at hb ⊢; exact h hb
      · exact t4 a ha h0 (by omega) hb⟩, rfl⟩
    rw [tz_x (by omega), tc_bits (by omega), tc_bits (tz_s_64 hn t1), tz_n (x := ((tz_pc k : Nat) : Int)) (by omega) (by omega), tz_n (x := ((tz_pc r : Nat) : Int)) (by omega) (by omega)]
    by_cases c2 : tz_pc r ≤ tz_pc k
    · rw [tz_y (by omega)]; exact hgo (fun _ => c2)
    · rw [tz_x (by omega)]
      refine tc_beatsAll hS (by omega) (fun hb => ?_) (fun hb => ?_)
      · rw [tz_n1, tz_x (by decide)]
        exact hk (64 - (k + 1)) _ _ _ (by omega) ⟨k, k + 1, rfl, by omega, rfl, by omega, by omega, ⟨by omega, fun _ => by omega, hb, fun a ha h0 hlt hba => by
          by_cases c3 : a = k
          · rw [c3]; exact Nat.le_refl _
          · have := t4 a ha h0 (by omega) hba; omega⟩, rfl⟩
      · rw [tz_n0, tz_y rfl]; exact hgo (fun h => absurd h hb)
theorem tc_notBeating (hS : tz_SV s n M) (hf : f < n) (hQ : ∀ r : Nat, r < 2 ^ n → (∀ j : Nat, j < n → (r.testBit j = true ↔ ¬ (s f j < s j f))) → Q (r : Int) M) : wX5_notBeating (f : Int) Q M := by
  have hn := hS.2.1
  simp only [wX5_notBeating, forall_eq]
  refine tz_ex3 (fun d x1 x2 x3 m => ∃ r k : Nat, x1 = (f : Int) ∧ x2 = (r : Int) ∧ x3 = (k : Int) ∧ m = M ∧ r < 2 ^ n ∧ (∀ j : Nat, j < n → (r.testBit j = true ↔ j < k ∧ ¬ (s f j < s j f))) ∧ k + d = n) n ⟨0, 0, rfl, rfl, rfl, rfl, (tz_s_p1 hn).1, fun j _ => ⟨fun h => (by rw [Nat.zero_testBit] at h; cases h), fun h => absurd h.1 (Nat.not_lt_zero j)⟩, by omega⟩ ?_
  rintro k0 d x1 x2 x3 m ⟨r, k, rfl, rfl, rfl, rfl, hr, hI, hd⟩ hk
  simp only [wX5_notBeating_L4, wX5_notBeating_B27, forall_eq]
  rw [hS.1, tz_n (x := (k : Int)) (by omega) (by omega), tz_n (x := (n : Int)) (by omega) (by omega)]
  by_cases c1 : k = n
  · rw [tz_y (by omega)]
    exact hQ r hr (fun j hj => ⟨fun h => ((hI j hj).mp h).2, fun h => (hI j hj).mpr ⟨by omega, h⟩⟩)
  · rw [tz_x (by omega)]
    refine tc_beats hS (by omega) hf (fun hs => ?_) (fun hs => ?_)
    · rw [tz_n1, tz_x2 (by decide)]
      refine hk (d - 1) _ _ _ _ (by omega) ⟨r, k + 1, rfl, rfl, by omega, rfl, hr, fun j hj => ⟨fun h => ⟨by have := ((hI j hj).mp h).1; omega, ((hI j hj).mp h).2⟩, fun h => ?_⟩, by omega⟩
      by_cases c2 : j = k
      · rw [c2] at h; exact absurd hs h.2
      · exact (hI j hj).mpr ⟨by omega, h.2⟩
    · have hk2 : 2 ^ k < 2 ^ n := Nat.pow_lt_pow_right (by decide) (by omega)
      have h64 := tz_s_64 hn hk2
      rw [tz_n0, tz_y2 (by decide), tz_s_one (by omega), tz_s_or (tz_s_64 hn hr) h64]
      refine hk (d - 1) _ _ _ _ (by omega) ⟨r ||| 2 ^ k, k + 1, rfl, rfl, by omega, rfl, Nat.or_lt_two_pow hr hk2, fun j hj => ?_, by omega⟩
      rw [Nat.testBit_or, Nat.testBit_two_pow]
      by_cases c2 : k = j
      · subst c2
        rw [decide_eq_true rfl, Bool.or_true]
        exact ⟨fun _ => ⟨by omega, hs⟩, fun _ => rfl⟩
      · rw [decide_eq_false c2, Bool.or_false, hI j hj]
        exact ⟨fun h => ⟨by omega, h.2⟩, fun h => ⟨by omega, h.2⟩⟩
theorem tc_leads (hS : tz_SV s n M) (hf : f < n) (hT : tz_tp s n r) (hQ : Q (tz_i (r.testBit f)) M) : wX5_leadsToAll (f : Int) Q M := by
  have hn := hS.2.1
  have hp := tz_s_p1 hn
  have hf2 : 2 ^ f < 2 ^ n := Nat.pow_lt_pow_right (by decide) (by omega)
  simp only [wX5_leadsToAll, forall_eq]
  rw [tz_s_one (by omega)]
  refine tz_ex2 (fun d x1 x2 m => ∃ a k : Nat, x1 = (a : Int) ∧ x2 = (k : Int) ∧ m = M ∧ a < 2 ^ n ∧ a.testBit f = true ∧ tz_rc s n f a ∧ (tz_cz s n a ∨ k + 1 ≤ tz_pc a) ∧ k + d = n) n ⟨2 ^ f, 0, rfl, rfl, rfl, hf2, by rw [Nat.testBit_two_pow]; exact decide_eq_true rfl, fun C h1 h2 h3 k hk hb => by
      rw [Nat.testBit_two_pow] at hb
      rw [← of_decide_eq_true hb]; exact h2, Or.inr (by
      have : tz_pc (2 ^ f) ≠ 0 := fun h => by have := tz_s_pz (tz_s_64 hn hf2) h; have := Nat.one_le_two_pow (n := f); omega
      omega), by omega⟩ ?_
  rintro k0 d x1 x2 m ⟨a, k, rfl, rfl, rfl, ha, hb, hr, hc, hd⟩ hk
  simp only [wX5_leadsToAll_L6, wX5_leadsToAll_B69, forall_eq]
  rw [hS.1, tz_n (x := (k : Int)) (by omega) (by omega), tz_n (x := (n : Int)) (by omega) (by omega)]
  by_cases c1 : k = n
  · rw [tz_y (by omega), tc_allPlaces hS, tz_n (x := (a : Int)) (by have := tz_s_64 hn ha; omega) (by have := tz_s_64 hn ha; omega), tz_n (x := ((2 ^ n - 1 : Nat) : Int)) (by omega) (by omega)]
    have hc2 : tz_cz s n a := by
      rcases hc with h | h
      · exact h
      · have := tz_pc_le hn ha
        rw [tz_pc_full hn] at this
        omega
    have hl := tz_leads hn hT hf ha hb hc2 hr
    cases hrb : r.testBit f
    · rw [hrb] at hQ hl
      have hne : a ≠ 2 ^ n - 1 := fun h => by cases hl.mp h
      rw [tz_x2 (by omega), tz_g0]; exact hQ
    · rw [hrb] at hQ hl
      have he := hl.mpr rfl
      rw [tz_y2 (by omega), tz_g1]; exact hQ
  · rw [tz_x (by omega)]
    refine tz_ex3 (fun d2 x1 x2 x3 m2 => ∃ c l : Nat, x1 = (c : Int) ∧ x2 = (k : Int) ∧ x3 = (l : Int) ∧ m2 = m ∧ c < 2 ^ n ∧ (∀ j : Nat, j < 6 → a.testBit j = true → c.testBit j = true) ∧ tz_rc s n f c ∧ (∀ x y : Nat, x < l → y < n → a.testBit x = true → ¬ (s x y < s y x) → c.testBit y = true) ∧ l + d2 = n) n ⟨a, 0, rfl, rfl, rfl, rfl, ha, fun _ _ h => h, hr, fun x y h => absurd h (Nat.not_lt_zero x), by omega⟩ ?_
    rintro k1 d2 x1 x2 x3 m2 ⟨c, l, rfl, rfl, rfl, rfl, hcl, hac, hrc, hst, hd2⟩ hk2
    have hc64 := tz_s_64 hn hcl
    simp only [wX5_leadsToAll_L17, wX5_leadsToAll_B44, forall_eq]
    rw [hS.1, tz_n (x := (l : Int)) (by omega) (by omega), tz_n (x := (n : Int)) (by omega) (by omega)]
    by_cases c2 : l = n
    · rw [tz_y (by omega)]
      refine hk (d - 1) _ _ _ (by omega) ⟨c, k + 1, rfl, by omega, rfl, hcl, hac f (by omega) hb, hrc, ?_, by omega⟩
      by_cases c3 : a = c
      · left
        intro x y hx hy hbx hs
        rw [← c3] at hbx
        exact hst x y (by omega) hy hbx hs
      · rcases hc with h | h
        · exfalso
          exact c3 (tz_s_ext (tz_s_64 hn ha) hc64 (fun j hj => by
            cases h5 : a.testBit j
            · cases h6 : c.testBit j
              · rfl
              · have := hrc a ha hb h j hj h6
                rw [h5] at this; cases this
            · rw [hac j hj h5]))
        · right
          have := tz_s_lt (tz_s_64 hn ha) hc64 hac c3
          omega
    · rw [tz_x (by omega), tc_isIn hc64 (by omega), tz_iw, tz_iz]
      cases hbl : c.testBit l
      · rw [tz_y rfl]
        refine hk2 (d2 - 1) _ _ _ _ (by omega) ⟨c, l + 1, rfl, rfl, by omega, rfl, hcl, hac, hrc, fun x y hx hy hbx hs => ?_, by omega⟩
        by_cases c3 : x = l
        · rw [c3] at hbx
          rw [hac l (by omega) hbx] at hbl; cases hbl
        · exact hst x y (by omega) hy hbx hs
      · rw [tz_x (by decide)]
        refine tc_notBeating hS (by omega) (fun e he hes => ?_)
        rw [tz_s_or hc64 (tz_s_64 hn he)]
        refine hk2 (d2 - 1) _ _ _ _ (by omega) ⟨c ||| e, l + 1, rfl, rfl, by omega, rfl, Nat.or_lt_two_pow hcl he, fun j hj h => ?_, fun C g1 g2 g3 j hj hbj => ?_, fun x y hx hy hbx hs => ?_, by omega⟩
        · rw [Nat.testBit_or, hac j hj h]; rfl
        · rw [Nat.testBit_or] at hbj
          cases h5 : c.testBit j
          · rw [h5, Bool.false_or] at hbj
            have hjn := tz_s_mem hn he hj hbj
            exact g3 l j (by omega) hjn (hrc C g1 g2 g3 l (by omega) hbl) ((hes j hjn).mp hbj)
          · exact hrc C g1 g2 g3 j hj h5
        · rw [Nat.testBit_or]
          by_cases c3 : x = l
          · rw [c3] at hs
            rw [(hes y hy).mpr hs, Bool.or_true]
          · rw [hst x y (by omega) hy hbx hs]; rfl
theorem tc_topAgree (hS : tz_SV s n M) (hQ : Q 1 M) : wX5_topWaysAgree Q M := by
  have hn := hS.2.1
  unfold wX5_topWaysAgree
  refine tc_smallest hS (fun r hT => ?_)
  have h64 := tz_s_64 hn hT.1
  simp only [forall_eq]
  refine tz_ex2 (fun d x1 x2 m => ∃ k : Nat, x1 = (r : Int) ∧ x2 = (k : Int) ∧ m = M ∧ k + d = n) n ⟨0, rfl, rfl, rfl, by omega⟩ ?_
  rintro k0 d x1 x2 m ⟨k, rfl, rfl, rfl, hd⟩ hk
  simp only [wX5_topWaysAgree_L7, forall_eq]
  rw [hS.1, tz_n (x := (k : Int)) (by omega) (by omega), tz_n (x := (n : Int)) (by omega) (by omega)]
  by_cases c1 : k = n
  · rw [tz_y (by omega)]; exact hQ
  · rw [tz_x (by omega)]
    refine tc_leads hS (by omega) hT ?_
    rw [tc_isIn h64 (by omega), tz_y rfl]
    exact hk (d - 1) _ _ _ (by omega) ⟨k + 1, rfl, by omega, rfl, by omega⟩
/-! the reference -/
theorem tm_many (ha : a < 64) (hQ : Q ((tz_pc a : Nat) : Int) M) : wX12_many (a : Int) Q M := by
  simp only [wX12_many, forall_eq]
  refine tz_ex2 (fun d x1 x2 m => ∃ b : Nat, x2 = (b : Int) ∧ b < 64 ∧ x1 + ((tz_pc b : Nat) : Int) = ((tz_pc a : Nat) : Int) ∧ m = M ∧ d = b) a ⟨a, rfl, ha, by omega, rfl, rfl⟩ ?_
  rintro k0 d x1 x2 m ⟨b, rfl, hb, he, rfl, rfl⟩ hk
  simp only [wX12_many_L4, forall_eq]
  rw [tz_n (x := (d : Int)) (by omega) (by omega)]
  by_cases c1 : d = 0
  · have h0 : tz_pc d = 0 := by rw [c1]; rfl
    rw [h0] at he
    rw [tz_y (by omega), show x1 = ((tz_pc a : Nat) : Int) by omega]; exact hQ
  · have h1 := tz_s_many hb c1
    rw [tz_x (by omega), tz_rem (by omega) (by omega) (by omega) (by omega), tz_div (by omega) (by omega) (by omega) (by omega)]
    refine hk (d / 2) _ _ _ (by omega) ⟨d / 2, by omega, by omega, by omega, rfl, rfl⟩
theorem tm_beatsOthers (hW : tz_W B (M.1 165)) (ha : a < 2 ^ tz_nn (M.1 165)) (h1 : tz_ba (tz_ss (M.1 165)) (tz_nn (M.1 165)) a → Q 1 M) (h0 : ¬ tz_ba (tz_ss (M.1 165)) (tz_nn (M.1 165)) a → Q 0 M) : wX12_beatsOthers (a : Int) Q M := by
  obtain ⟨hn1, hn⟩ := tz_nn_6 hW
  have h64 := tz_s_64 hn ha
  simp only [wX12_beatsOthers, forall_eq]
  refine tz_ex2 (fun d x1 x2 m => ∃ k : Nat, x1 = (a : Int) ∧ x2 = (k : Int) ∧ m = M ∧ (∀ i j : Nat, i < k → j < tz_nn (M.1 165) → a.testBit i = true → a.testBit j = false → tz_ss (M.1 165) j i < tz_ss (M.1 165) i j) ∧ k + d = tz_nn (M.1 165)) (tz_nn (M.1 165)) ⟨0, rfl, rfl, rfl, fun i j h => absurd h (Nat.not_lt_zero i), by omega⟩ ?_
  rintro k0 d x1 x2 m ⟨k, rfl, rfl, rfl, hI, hd⟩ hk
  simp only [wX12_beatsOthers_L2, forall_eq]
  rw [tz_n (x := (k : Int)) (by omega) (by omega), tz_n (x := m.1 165 1) (by omega) (by omega)]
  by_cases c1 : k = tz_nn (m.1 165)
  · rw [tz_y (by omega)]
    exact h1 (fun i j hi hj => hI i j (by omega) hj)
  · rw [tz_x (by omega)]
    refine tz_ex3 (fun d2 x1 x2 x3 m2 => ∃ l : Nat, x1 = (a : Int) ∧ x2 = (k : Int) ∧ x3 = (l : Int) ∧ m2 = m ∧ (∀ j : Nat, j < l → a.testBit k = true → a.testBit j = false → tz_ss (m.1 165) j k < tz_ss (m.1 165) k j) ∧ l + d2 = tz_nn (m.1 165)) (tz_nn (m.1 165)) ⟨0, rfl, rfl, rfl, rfl, fun j h => absurd h (Nat.not_lt_zero j), by omega⟩ ?_
    rintro k1 d2 x1 x2 x3 m2 ⟨l, rfl, rfl, rfl, rfl, hJ, hd2⟩ hk2
    simp only [wX12_beatsOthers_L14, wX12_beatsOthers_B58, forall_eq]
    rw [tz_n (x := (l : Int)) (by omega) (by omega), tz_n (x := m2.1 165 1) (by omega) (by omega)]
    by_cases c2 : l = tz_nn (m2.1 165)
    · rw [tz_y (by omega)]
      refine hk (d - 1) _ _ _ (by omega) ⟨k + 1, rfl, by omega, rfl, fun i j hi hj hbi hbj => ?_, by omega⟩
      by_cases c3 : i = k
      · rw [c3] at hbi ⊢; exact hJ j (by omega) hbi hbj
      · exact hI i j (by omega) hj hbi hbj
    · have hgo : (a.testBit k = true → a.testBit l = false → tz_ss (m2.1 165) l k < tz_ss (m2.1 165) k l) → k1 (a : Int) (k : Int) ((l : Int) + 1) m2 := fun h => hk2 (d2 - 1) _ _ _ _ (by omega) ⟨l + 1, rfl, rfl, by omega, rfl, fun j hj hbk hbj => by
        by_cases c3 : j = l
        · rw [c3] at hbj ⊢; exact h hbk hbj
        · exact hJ j (by omega) hbk hbj, by omega⟩
      rw [tz_x (by omega), tz_s_in h64 (by omega), tz_s_in h64 (by omega), tz_iw, tz_iw, tz_io, tz_iz]
      cases hbk : a.testBit k
      · rw [tz_x2 (by decide)]; exact hgo (fun h => by rw [hbk] at h; cases h)
      · rw [tz_y2 (by decide)]
        cases hbl : a.testBit l
        · rw [tz_y2 (by decide)]
          refine tm_supports hW (by omega) (by omega) ?_
          refine tm_supports hW (by omega) (by omega) ?_
          have r1 := tz_ss_sv (n := tz_nn (m2.1 165)) hW k l (by omega) (by omega)
          have r2 := tz_ss_sv (n := tz_nn (m2.1 165)) hW l k (by omega) (by omega)
          rw [tz_n (x := tz_ss (m2.1 165) k l) (by omega) (by omega), tz_n (x := tz_ss (m2.1 165) l k) (by omega) (by omega)]
          by_cases c4 : tz_ss (m2.1 165) l k < tz_ss (m2.1 165) k l
          · rw [tz_y c4]; exact hgo (fun _ _ => c4)
          · rw [tz_x c4]; exact h0 (fun hb => c4 (hb k l (by omega) (by omega) hbk hbl))
        · rw [tz_x2 (by decide)]; exact hgo (fun _ h => by rw [hbl] at h; cases h)
theorem tm_isInTop (hW : tz_W B (M.1 165)) (hB : B ≤ 1000000000) (h1 : ts_w p = p) (h0 : tz_pl (M.1 165) p = -1 → Q 0 (ts_si (ts_si M 164 0 0) 164 0 1)) (hQ : 0 ≤ tz_pl (M.1 165) p → ∀ r : Nat, tz_tp (tz_ss (M.1 165)) (tz_nn (M.1 165)) r → Q (tz_i (r.testBit (tz_pl (M.1 165) p).toNat)) (ts_si M 164 0 0)) : wX12_isInTop p Q M := by
  obtain ⟨hn1, hn⟩ := tz_nn_6 hW
  have hp := tz_s_p1 hn
  have hL := tz_L_of hB hW
  have e1 : (ts_si M 164 0 0).1 165 = M.1 165 := ts_si_ne (by decide)
  have hr := tz_pl_rng (w := M.1 165) (v := p) (by omega)
  simp only [wX12_isInTop, forall_eq]
  rw [tm_place (by rw [e1]; exact hL) h1, e1, tz_n (x := tz_pl (M.1 165) p) (by omega) (by omega)]
  by_cases c0 : 0 ≤ tz_pl (M.1 165) p
  · rw [tz_y c0, ← hn1, tz_s_one (by omega), show ((2 ^ tz_nn (M.1 165) : Nat) : Int) - 1 = ((2 ^ tz_nn (M.1 165) - 1 : Nat) : Int) by omega]
    have hQ2 := hQ c0
    obtain ⟨q, hq⟩ : ∃ q : Nat, tz_pl (M.1 165) p = (q : Int) := ⟨(tz_pl (M.1 165) p).toNat, by omega⟩
    rw [hq] at hQ2 hr
    rw [show ((q : Int)).toNat = q from rfl] at hQ2
    have hWs : tz_W B ((ts_si M 164 0 0).1 165) := by rw [e1]; exact hW
    have hLs : tz_L ((ts_si M 164 0 0).1 165) := by rw [e1]; exact hL
    have hqn : q < tz_nn (M.1 165) := by omega
    generalize hM : ts_si M 164 0 0 = M1 at *
    have hpl : tz_pl (M1.1 165) p = (q : Int) := by rw [e1]; exact hq
    have hn1s : (tz_nn (M1.1 165) : Int) = M1.1 165 1 := by rw [e1]; exact hn1
    have hba := fun {a : Nat} {Q : Int → ts_M → Prop} => tm_beatsOthers (a := a) (Q := Q) (M := M1) hWs
    rw [← e1] at hQ2 hn hp hqn ⊢
    refine tz_ex3 (fun d x1 x2 x3 m => ∃ r k : Nat, x1 = p ∧ x2 = (r : Int) ∧ x3 = (k : Int) ∧ m = M1 ∧ 1 ≤ k ∧ k ≤ 2 ^ tz_nn (M1.1 165) ∧ (r < 2 ^ tz_nn (M1.1 165) ∧ (tz_nn (M1.1 165) ≠ 0 → r ≠ 0) ∧ tz_ba (tz_ss (M1.1 165)) (tz_nn (M1.1 165)) r ∧ ∀ a : Nat, a < 2 ^ tz_nn (M1.1 165) → a ≠ 0 → a < k → tz_ba (tz_ss (M1.1 165)) (tz_nn (M1.1 165)) a → tz_pc r ≤ tz_pc a) ∧ d = 64 - k) 63 ⟨2 ^ tz_nn (M1.1 165) - 1, 1, rfl, rfl, rfl, rfl, by omega, by omega, ⟨by omega, fun h => by
        have : 2 ^ 1 ≤ 2 ^ tz_nn (M1.1 165) := Nat.pow_le_pow_right (by decide) (by omega)
        omega, tz_ba_full hn, fun a _ h2 h3 => by omega⟩, rfl⟩ ?_
    rintro k0 d x1 x2 x3 m ⟨r, k, rfl, rfl, rfl, rfl, hk1, hk64, ⟨t1, t2, t3, t4⟩, rfl⟩ hk
    simp only [wX12_isInTop_L40, wX12_isInTop_B73, wX12_isInTop_B97, forall_eq]
    rw [← hn1s, tz_s_one (by omega), tz_n (x := (k : Int)) (by omega) (by omega), tz_n (x := ((2 ^ tz_nn (m.1 165) : Nat) : Int)) (by omega) (by omega)]
    by_cases c1 : k = 2 ^ tz_nn (m.1 165)
    · rw [tz_y (by omega), tm_place hLs h1, hpl, tz_s_in (tz_s_64 hn t1) (by omega), tz_iw, tz_io]
      have hQ3 := hQ2 r ⟨t1, t2, t3, fun a ha h0 hb => t4 a ha h0 (by omega) hb⟩
      cases hrb : r.testBit q
      · rw [hrb] at hQ3
        rw [tz_x2 (by decide), tz_g0]; exact hQ3
      · rw [hrb] at hQ3
        rw [tz_y2 (by decide), tz_g1]; exact hQ3
    · have p1 := tz_s_pc6 (a := k)
      have p2 := tz_s_pc6 (a := r)
      have hgo : (tz_ba (tz_ss (m.1 165)) (tz_nn (m.1 165)) k → tz_pc r ≤ tz_pc k) → k0 x1 (r : Int) ((k : Int) + 1) m := fun h => hk (64 - (k + 1)) _ _ _ _ (by omega) ⟨r, k + 1, rfl, rfl, by omega, rfl, by omega, by omega, ⟨t1, t2, t3, fun a ha h0 hlt hb => by
        by_cases c3 : a = k
        · rw [c3] at hb ⊢; exact h hb
        · exact t4 a ha h0 (by omega) hb⟩, rfl⟩
      rw [tz_x (by omega)]
      refine tm_many (by omega) ?_
      refine tm_many (tz_s_64 hn t1) ?_
      rw [tz_n (x := ((tz_pc k : Nat) : Int)) (by omega) (by omega), tz_n (x := ((tz_pc r : Nat) : Int)) (by omega) (by omega)]
      by_cases c2 : tz_pc r ≤ tz_pc k
      · rw [tz_y (by omega)]; exact hgo (fun _ => c2)
      · rw [tz_x (by omega)]
        refine hba (by omega) (fun hb => ?_) (fun hb => ?_)
        · rw [tz_n1, tz_x (by decide)]
          exact hk (64 - (k + 1)) _ _ _ _ (by omega) ⟨k, k + 1, rfl, rfl, by omega, rfl, by omega, by omega, ⟨by omega, fun _ => by omega, hb, fun a ha h0 hlt hba => by
            by_cases c3 : a = k
            · rw [c3]; exact Nat.le_refl _
            · have := t4 a ha h0 (by omega) hba; omega⟩, rfl⟩
        · rw [tz_n0, tz_y rfl]; exact hgo (fun h => absurd h hb)
  · rw [tz_x c0]
    simp only [wX12_fails, wX12_isInTop_B26, forall_eq]
    rw [tz_y (show ts_w 0 ≤ 0 by decide), tz_g0]
    exact h0 (by omega)
end TZT
