/-! ===== a whole script is read, on both sides ===== -/
/-- the j-th command's place; and what is read there -/
def tz_ps (ch : Int → Int) : Nat → Int
  | 0 => 0
  | j + 1 => (tz_rd ch (tz_ps ch j) 12 0 (tz_ps ch j)).2.2.1 + 1
def tz_cm (ch : Int → Int) (j : Nat) : Bool × Int × Int × List Int := tz_rd ch (tz_ps ch j) 12 0 (tz_ps ch j)
/-- n commands, each with a semicolon behind it -/
def tz_pre (ch : Int → Int) (n : Nat) : Prop := ∀ j : Nat, j < n → (tz_cm ch j).1 = true ∧ ch (tz_cm ch j).2.2.1 = 59
/-- how the script ends -/
def tz_gd (ch : Int → Int) (L : Int) (n : Nat) : Prop := tz_pre ch n ∧ (tz_cm ch n).1 = true ∧ (tz_cm ch n).2.2.1 = L
def tz_bd (ch : Int → Int) (L : Int) (n : Nat) : Prop := tz_pre ch n ∧ ((tz_cm ch n).1 = false ∨ ((tz_cm ch n).2.2.1 ≠ L ∧ ch (tz_cm ch n).2.2.1 ≠ 59))
theorem tz_fm_4 : ∀ q : Fin 12, 4 ≤ (tz_fm q.val).length := by decide
section TZV
variable {L i c x s : Int} {t ch ch2 : Int → Int} {F G A : List Int} {a b k j n f q : Nat} {Q : Int → ts_M → Prop} {Qv : ts_M → Prop} {M m M0 : ts_M}
theorem tz_nm2_cg (h : ∀ j : Int, i ≤ j → ch j = ch2 j) : tz_nm2 ch i = tz_nm2 ch2 i := by
  unfold tz_nm2; rw [h i (by omega), h (i + 1) (by omega)]
theorem tz_st_cg (h : ∀ j : Int, i ≤ j → ch j = ch2 j) : tz_st ch c i = tz_st ch2 c i := by
  unfold tz_st
  rw [h i (by omega), tz_nm2_cg (i := i) h, tz_nm2_cg (i := i + 1) (fun j hj => h j (by omega))]
theorem tz_mt_cg : ∀ {F : List Int} {i : Int}, (∀ j : Int, i ≤ j → ch j = ch2 j) → tz_mt ch F i = tz_mt ch2 F i
  | [], _, _ => rfl
  | c :: F, i, h => by
    have h1 := tz_st_cg (c := c) h
    have h2 := tz_st_ge (ch := ch2) (c := c) (i := i)
    unfold tz_mt
    rw [h1, tz_mt_cg (F := F) (i := (tz_st ch2 c i).2.1) (fun j hj => h j (by omega))]
theorem tz_rd_cg (h : ∀ j : Int, i ≤ j → ch j = ch2 j) : ∀ (n k : Nat) (far : Int), tz_rd ch i n k far = tz_rd ch2 i n k far
  | 0, _, _ => rfl
  | n + 1, k, far => by
    unfold tz_rd
    rw [tz_mt_cg h, tz_rd_cg h n (k + 1)]
theorem tz_rd_rng (h : tz_tx L t) (h0 : 0 ≤ i) (h1 : i ≤ L) : ∀ (n k : Nat) {far : Int}, k + n = 12 → i ≤ far → far ≤ L → i ≤ (tz_rd (tz_nx L t) i n k far).2.2.1 ∧ (tz_rd (tz_nx L t) i n k far).2.2.1 ≤ L ∧ ((tz_rd (tz_nx L t) i n k far).1 = true → i + 4 ≤ (tz_rd (tz_nx L t) i n k far).2.2.1 ∧ (0 ≤ (tz_rd (tz_nx L t) i n k far).2.1 ∧ (tz_rd (tz_nx L t) i n k far).2.1 ≤ 11) ∧ (tz_rd (tz_nx L t) i n k far).2.2.2.length = tz_na (tz_fm (tz_rd (tz_nx L t) i n k far).2.1.toNat) ∧ ∀ v ∈ (tz_rd (tz_nx L t) i n k far).2.2.2, -99 ≤ v ∧ v ≤ 99)
  | 0, k, far, _, h2, h3 => ⟨h2, h3, fun h => (by cases h)⟩
  | n + 1, k, far, hk, h2, h3 => by
    have hm := tz_mt_rng h (F := tz_fm k) h0 h1 (tz_fm_32 ⟨k, by omega⟩)
    have h4 := tz_fm_4 ⟨k, by omega⟩
    dsimp only at h4
    unfold tz_rd
    cases ho : (tz_mt (tz_nx L t) (tz_fm k) i).1
    · rw [if_neg (by decide)]
      exact tz_rd_rng h h0 h1 n (k + 1) (by omega) (by split <;> omega) (by split <;> omega)
    · rw [if_pos rfl]
      have h5 := hm.2.2.2.1 ho
      exact ⟨hm.1, hm.2.1, fun _ => ⟨by dsimp only; omega, ⟨by dsimp only; omega, by dsimp only; omega⟩, h5.2, hm.2.2.1⟩⟩
/-- where the j-th command is read -/
theorem tz_ps_rng (h : tz_tx L t) : ∀ {n : Nat}, tz_pre (tz_nx L t) n → 5 * (n : Int) ≤ tz_ps (tz_nx L t) n ∧ tz_ps (tz_nx L t) n ≤ L
  | 0, _ => ⟨Int.le_refl 0, h.1.1⟩
  | n + 1, hp => by
    have h1 := tz_ps_rng h (n := n) (fun j hj => hp j (by omega))
    have h2 := hp n (by omega)
    have h3 := tz_rd_rng h (i := tz_ps (tz_nx L t) n) (by omega) h1.2 12 0 rfl (Int.le_refl _) h1.2
    have h4 := h3.2.2 h2.1
    have h5 : tz_nx L t (tz_cm (tz_nx L t) n).2.2.1 = 59 := h2.2
    show 5 * ((n + 1 : Nat) : Int) ≤ (tz_rd (tz_nx L t) (tz_ps (tz_nx L t) n) 12 0 (tz_ps (tz_nx L t) n)).2.2.1 + 1 ∧ (tz_rd (tz_nx L t) (tz_ps (tz_nx L t) n) 12 0 (tz_ps (tz_nx L t) n)).2.2.1 + 1 ≤ L
    unfold tz_cm at h5
    generalize (tz_rd (tz_nx L t) (tz_ps (tz_nx L t) n) 12 0 (tz_ps (tz_nx L t) n)).2.2.1 = y at *
    have h6 : ¬ L ≤ y := fun h7 => by
      unfold tz_nx at h5
      rw [if_pos h7] at h5
      cases h5
    omega
theorem tz_cm_rng (h : tz_tx L t) (hp : tz_pre (tz_nx L t) n) : tz_ps (tz_nx L t) n ≤ (tz_cm (tz_nx L t) n).2.2.1 ∧ (tz_cm (tz_nx L t) n).2.2.1 ≤ L ∧ ((tz_cm (tz_nx L t) n).1 = true → n ≤ 11 ∧ (0 ≤ (tz_cm (tz_nx L t) n).2.1 ∧ (tz_cm (tz_nx L t) n).2.1 ≤ 11) ∧ (tz_cm (tz_nx L t) n).2.2.2.length = tz_na (tz_fm (tz_cm (tz_nx L t) n).2.1.toNat) ∧ ∀ v ∈ (tz_cm (tz_nx L t) n).2.2.2, -99 ≤ v ∧ v ≤ 99) := by
  have h1 := tz_ps_rng h hp
  have h2 := tz_rd_rng h (i := tz_ps (tz_nx L t) n) (by omega) h1.2 12 0 rfl (Int.le_refl _) h1.2
  refine ⟨h2.1, h2.2.1, fun ho => ?_⟩
  have h3 := h2.2.2 ho
  have := h.1.2
  exact ⟨by omega, h3.2⟩
theorem tz_cm_cg (h : ∀ j : Int, 0 ≤ j → ch j = ch2 j) (h0 : ∀ j : Nat, 0 ≤ tz_ps ch j) : ∀ n : Nat, tz_ps ch n = tz_ps ch2 n ∧ tz_cm ch n = tz_cm ch2 n
  | 0 => ⟨rfl, tz_rd_cg h 12 0 0⟩
  | n + 1 => by
    obtain ⟨h1, h2⟩ := tz_cm_cg h h0 n
    have h3 : tz_ps ch (n + 1) = tz_ps ch2 (n + 1) := by
      show (tz_cm ch n).2.2.1 + 1 = (tz_cm ch2 n).2.2.1 + 1
      rw [h2]
    refine ⟨h3, ?_⟩
    unfold tz_cm
    rw [← h3]
    exact tz_rd_cg (fun j hj => h j (by have := h0 (n + 1); omega)) 12 0 _
theorem tz_rd_ge : ∀ (n k : Nat) {far : Int}, i ≤ far → i ≤ (tz_rd ch i n k far).2.2.1
  | 0, _, _, h => h
  | n + 1, k, far, h => by
    have h1 := tz_mt_ge (ch := ch) (F := tz_fm k) (i := i)
    unfold tz_rd
    split
    · exact h1
    · exact tz_rd_ge n (k + 1) (by split <;> omega)
theorem tz_ps_0 : ∀ n : Nat, 0 ≤ tz_ps ch n
  | 0 => Int.le_refl 0
  | n + 1 => by
    have h1 := tz_ps_0 n
    have h2 := tz_rd_ge (ch := ch) (i := tz_ps ch n) 12 0 (Int.le_refl _)
    show 0 ≤ (tz_rd ch (tz_ps ch n) 12 0 (tz_ps ch n)).2.2.1 + 1
    omega
/-- a script ends in one way only -/
theorem tz_end_lt (h : tz_tx L t) (hn : tz_pre (tz_nx L t) n) (hk : tz_gd (tz_nx L t) L k ∨ tz_bd (tz_nx L t) L k) : ¬ k < n := fun hlt => by
  have h1 := hn k hlt
  rcases hk with h2 | h2
  · have h3 := h1.2
    rw [h2.2.2] at h3
    unfold tz_nx at h3
    rw [if_pos (Int.le_refl L)] at h3
    cases h3
  · rcases h2.2 with h3 | h3
    · rw [h1.1] at h3; cases h3
    · exact h3.2 h1.2
theorem tz_end_eq (h : tz_tx L t) (hn : tz_gd (tz_nx L t) L n ∨ tz_bd (tz_nx L t) L n) (hk : tz_gd (tz_nx L t) L k ∨ tz_bd (tz_nx L t) L k) : n = k := by
  have h1 : tz_pre (tz_nx L t) n := by rcases hn with h | h <;> exact h.1
  have h2 : tz_pre (tz_nx L t) k := by rcases hk with h | h <;> exact h.1
  have h3 := tz_end_lt h h1 hk
  have h4 := tz_end_lt h h2 hn
  omega
theorem tz_end_no (hn : tz_gd (tz_nx L t) L n) (hk : tz_bd (tz_nx L t) L n) : False := by
  rcases hk.2 with h | h
  · rw [hn.2.1] at h; cases h
  · exact h.1 hn.2.2
/-! the class -/
/-- n commands are held -/
def tz_HC (M0 : ts_M) (n : Nat) (m : ts_M) : Prop := (∀ (a : Nat) (j : Int), ¬ (a = 160 ∧ (j = 4 ∨ j = 5 ∨ j = 6)) → a ≠ 162 → a ≠ 163 → m.1 a j = M0.1 a j) ∧ m.2 = M0.2 ∧ m.1 160 4 = (n : Int) ∧ ∀ j : Nat, j < n → m.1 162 (j : Int) = (tz_cm (tz_cc M0) j).2.1 ∧ ∀ k : Nat, k < (tz_cm (tz_cc M0) j).2.2.2.length → m.1 163 (3 * (j : Int) + (k : Int)) = (tz_cm (tz_cc M0) j).2.2.2.getD k 0
theorem tc_readAll (hT : tz_tx (M0.1 160 3) (M0.1 161)) (hG : ∀ (n : Nat) (m : ts_M), tz_gd (tz_cc M0) (M0.1 160 3) n → tz_HC M0 (n + 1) m → Q (-1) m) (hE : ∀ (n : Nat) (m : ts_M), tz_bd (tz_cc M0) (M0.1 160 3) n → (∀ (a : Nat) (j : Int), ¬ (a = 160 ∧ (j = 4 ∨ j = 5 ∨ j = 6)) → a ≠ 162 → a ≠ 163 → m.1 a j = M0.1 a j) → m.2 = M0.2 → Q (tz_cm (tz_cc M0) n).2.2.1 m) : wX7_readAll Q M0 := by
  have hL := hT.1
  simp only [wX7_readAll, forall_eq]
  refine tz_ex1 (fun d x1 m => ∃ n : Nat, x1 = (n : Int) ∧ n + d = 13 ∧ tz_pre (tz_cc M0) n ∧ tz_HC M0 n m ∧ m.1 160 5 = tz_ps (tz_cc M0) n) 13 ⟨0, rfl, rfl, fun j hj => absurd hj (Nat.not_lt_zero j), ⟨fun a j g1 g2 g3 => ?_, rfl, by rw [tz_si_k (by decide), tz_si_a]; rfl, fun j hj => absurd hj (Nat.not_lt_zero j)⟩, tz_si_a⟩ ?_
  · rw [show (ts_si (ts_si M0 160 4 0) 160 5 0).1 a j = (ts_si M0 160 4 0).1 a j from if_neg (by omega), show (ts_si M0 160 4 0).1 a j = M0.1 a j from if_neg (by omega)]
  · rintro k0 d x1 m ⟨n, rfl, hd, hp, hm, hi⟩ hk
    have hps := tz_ps_rng hT hp
    have hcm := tz_cm_rng hT hp
    obtain ⟨h1, h2, h3, h4⟩ := hm
    have et : m.1 161 = M0.1 161 := by funext j; exact h1 161 j (by omega) (by decide) (by decide)
    have eL : m.1 160 3 = M0.1 160 3 := h1 160 3 (by omega) (by decide) (by decide)
    have ecc : tz_cc m = tz_cc M0 := by unfold tz_cc; rw [et, eL]
    have hps' : 5 * (n : Int) ≤ tz_ps (tz_cc M0) n ∧ tz_ps (tz_cc M0) n ≤ M0.1 160 3 := hps
    simp only [wX7_readAll_L12, forall_eq]
    rw [tz_n (x := (n : Int)) (by omega) (by omega), tz_x (by omega)]
    have hcme : tz_rd (tz_cc M0) (tz_ps (tz_cc M0) n) 12 0 (tz_ps (tz_cc M0) n) = tz_cm (tz_cc M0) n := rfl
    have hcm1 : tz_ps (tz_cc M0) n ≤ (tz_cm (tz_cc M0) n).2.2.1 := hcm.1
    have hcm2 : (tz_cm (tz_cc M0) n).2.2.1 ≤ M0.1 160 3 := hcm.2.1
    refine tc_readCommand (M0 := m) (i := tz_ps (tz_cc M0) n) ⟨by rw [et, eL]; exact hT, by omega, by omega⟩ hi (by omega) (by rw [eL]; exact hps.2) (fun ho hz m' hm' => ?_) (fun ho => ?_) (fun ho m' f1 f2 f3 f4 => ?_)
    · rw [ecc, hcme] at ho hm'
      have h5 := hcm.2.2 ho
      obtain ⟨g1, g2, g3, g4, g5, g6, g7, g8⟩ := hm'
      rw [h3] at g4 g5 g6 g7 g8
      have hm2 : tz_HC M0 (n + 1) m' := ⟨fun a j k1 k2 k3 => by rw [g1 a j k1 k2 k3]; exact h1 a j k1 k2 k3, g2.trans h2, by rw [g4]; omega, fun j hj => by
        by_cases c1 : j = n
        · subst c1
          exact ⟨g6, g8⟩
        · rw [g5 (j : Int) (by omega)]
          have h6 := h4 j (by omega)
          refine ⟨h6.1, fun k hk => ?_⟩
          have hpj := tz_cm_rng hT (n := j) (fun j2 hj2 => hp j2 (by omega))
          have h7 := (hpj.2.2 (hp j (by omega)).1).2.2.1
          have h8 := tz_fm_ln ⟨(tz_cm (tz_cc M0) j).2.1.toNat, by have := (hpj.2.2 (hp j (by omega)).1).2.1; unfold tz_cc; omega⟩
          have h9 : tz_na (tz_fm (tz_cm (tz_cc M0) j).2.1.toNat) ≤ 3 := h8.2.2
          have h10 : (tz_cm (tz_cc M0) j).2.2.2.length = tz_na (tz_fm (tz_cm (tz_cc M0) j).2.1.toNat) := h7
          rw [g7 _ (by omega)]
          exact h6.2 k hk⟩
      have eL2 : m'.1 160 3 = M0.1 160 3 := hm2.1 160 3 (by omega) (by decide) (by decide)
      have et2 : m'.1 161 = M0.1 161 := by funext j; exact hm2.1 161 j (by omega) (by decide) (by decide)
      rw [tz_n1, tz_x2 (by decide), g3, eL2, tz_n (x := (tz_cm (tz_cc M0) n).2.2.1) (by omega) (by omega), tz_n (x := M0.1 160 3) (by omega) (by omega)]
      by_cases c1 : (tz_cm (tz_cc M0) n).2.2.1 < M0.1 160 3
      · rw [tz_y c1]
        have hcc : tz_cc M0 (tz_cm (tz_cc M0) n).2.2.1 = M0.1 161 (tz_cm (tz_cc M0) n).2.2.1 := if_neg (by omega)
        have htj := hT.2 (tz_cm (tz_cc M0) n).2.2.1 (by omega) c1
        simp only [wX7_take, wX7_take_B24, forall_eq]
        rw [g3, eL2, et2, tz_n (x := (tz_cm (tz_cc M0) n).2.2.1) (by omega) (by omega), tz_n (x := M0.1 160 3) (by omega) (by omega), tz_n (x := M0.1 161 (tz_cm (tz_cc M0) n).2.2.1) (by omega) (by omega), tz_n (x := (59 : Int)) (by decide) (by decide), tz_x (by omega), tz_p ⟨by omega, by omega⟩]
        by_cases c2 : M0.1 161 (tz_cm (tz_cc M0) n).2.2.1 = 59
        · rw [tz_y c2, tz_n1, tz_x2 (by decide)]
          refine hk (d - 1) _ _ (by omega) ⟨n + 1, by omega, by omega, fun j hj => ?_, ⟨fun a j k1 k2 k3 => ?_, hm2.2.1, ?_, fun j hj => ?_⟩, ?_⟩
          · by_cases c3 : j = n
            · rw [c3]; exact ⟨ho, hcc.trans c2⟩
            · exact hp j (by omega)
          · rw [show (ts_si m' 160 5 ((tz_cm (tz_cc M0) n).2.2.1 + 1)).1 a j = m'.1 a j from if_neg (by omega)]
            exact hm2.1 a j k1 k2 k3
          · rw [tz_si_k (by decide)]; exact hm2.2.2.1
          · rw [ts_si_ne (by decide), ts_si_ne (by decide)]; exact hm2.2.2.2 j hj
          · rw [tz_si_a]; rfl
        · rw [tz_x c2, tz_n0, tz_y2 (by decide)]
          exact hE n m' ⟨hp, Or.inr ⟨by omega, fun h => c2 (hcc.symm.trans h)⟩⟩ hm2.1 hm2.2.1
      · rw [tz_x c1]
        exact hG n m' ⟨hp, ho, by omega⟩ hm2
    · rw [ecc, hcme] at ho
      rw [h3]
      have := (hcm.2.2 ho).1
      omega
    · rw [ecc, hcme] at ho f3
      rw [tz_n0, tz_y2 (by decide), f3]
      refine hE n m' ⟨hp, Or.inl ho⟩ (fun a j k1 k2 k3 => ?_) (f2.trans h2)
      rw [f1 a j (by omega) k3]
      exact h1 a j k1 k2 k3
/-! the reference -/
/-- the reader between two commands -/
def tz_HR (M0 : ts_M) (m : ts_M) : Prop := (∀ (a : Nat) (j : Int), ¬ (a = 164 ∧ (j = 15 ∨ j = 19)) → a ≠ 174 → m.1 a j = M0.1 a j) ∧ m.2 = M0.2
theorem tm_readsAll (hT : tz_R0 M0) (hG : ∀ (n : Nat) (m : ts_M), tz_gd (tz_cr M0) (M0.1 164 14) n → tz_HR M0 m → Q 1 m) (hE : ∀ (n : Nat) (m : ts_M), tz_bd (tz_cr M0) (M0.1 164 14) n → tz_HR M0 m → m.1 164 15 = (tz_cm (tz_cr M0) n).2.2.1 → Q 0 m) : wX12_readsAll Q M0 := by
  have hL := hT.1
  simp only [wX12_readsAll, forall_eq]
  refine tz_ex1 (fun d x1 m => tz_HR M0 m ∧ ((x1 = 1 ∧ ∃ n : Nat, n + d = 13 ∧ tz_pre (tz_cr M0) n ∧ m.1 164 15 = tz_ps (tz_cr M0) n) ∨ (x1 = 0 ∧ ∃ n : Nat, tz_pre (tz_cr M0) n ∧ (tz_cm (tz_cr M0) n).1 = true ∧ tz_cr M0 (tz_cm (tz_cr M0) n).2.2.1 ≠ 59 ∧ m.1 164 15 = (tz_cm (tz_cr M0) n).2.2.1))) 13 ⟨⟨fun a j g1 g2 => if_neg (by omega), rfl⟩, Or.inl ⟨rfl, 0, rfl, fun j hj => absurd hj (Nat.not_lt_zero j), tz_si_a⟩⟩ ?_
  rintro k0 d x1 m ⟨hm, hx⟩ hk
  have et : m.1 173 = M0.1 173 := by funext j; exact hm.1 173 j (by omega) (by decide)
  have eL : m.1 164 14 = M0.1 164 14 := hm.1 164 14 (by omega) (by decide)
  have ecc : tz_cr m = tz_cr M0 := by unfold tz_cr; rw [et, eL]
  simp only [wX12_readsAll_L7, wX12_readsAll_B46, forall_eq]
  rcases hx with ⟨rfl, n, hd, hp, hi⟩ | ⟨rfl, n, hp, ho, hc, hi⟩
  · have hps := tz_ps_rng hT hp
    have hcm := tz_cm_rng hT hp
    have hcme : tz_rd (tz_cr M0) (tz_ps (tz_cr M0) n) 12 0 (tz_ps (tz_cr M0) n) = tz_cm (tz_cr M0) n := rfl
    have hps' : 5 * (n : Int) ≤ tz_ps (tz_cr M0) n ∧ tz_ps (tz_cr M0) n ≤ M0.1 164 14 := hps
    have hcm1 : tz_ps (tz_cr M0) n ≤ (tz_cm (tz_cr M0) n).2.2.1 := hcm.1
    have hcm2 : (tz_cm (tz_cr M0) n).2.2.1 ≤ M0.1 164 14 := hcm.2.1
    rw [tz_n1, tz_x (by decide)]
    refine tm_readsCommand (M0 := m) (i := tz_ps (tz_cr M0) n) (by unfold tz_R0; rw [et, eL]; exact hT) hi (by omega) (by rw [eL]; exact hps.2) (fun ho m' hm' => ?_) (fun ho m' s A hm' => ?_)
    · rw [ecc, hcme] at ho hm'
      have hm2 : tz_HR M0 m' := ⟨fun a j k1 k2 => (hm'.1 a j k1 k2).trans (hm.1 a j k1 k2), hm'.2.1.trans hm.2⟩
      have hP2 : tz_R0 m := by unfold tz_R0; rw [et, eL]; exact hT
      rw [tz_n1, tz_x2 (by decide)]
      refine tm_reads hP2 hm' (by omega) (by rw [eL]; exact hcm2) (by decide) (fun hc m2 hm3 h6 => ?_) (fun hc => ?_)
      · rw [ecc] at hc
        refine hk (d - 1) _ _ (by have := hcm.2.2 ho; omega) ⟨⟨fun a j k1 k2 => (hm3.1 a j k1 k2).trans (hm.1 a j k1 k2), hm3.2.1.trans hm.2⟩, Or.inl ⟨rfl, n + 1, by have := hcm.2.2 ho; omega, fun j hj => ?_, hm3.2.2.1⟩⟩
        by_cases c3 : j = n
        · rw [c3]; exact ⟨ho, hc⟩
        · exact hp j (by omega)
      · rw [ecc] at hc
        exact hk (d - 1) _ _ (by have := hcm.2.2 ho; omega) ⟨hm2, Or.inr ⟨rfl, n, hp, ho, hc, hm'.2.2.1⟩⟩
    · rw [ecc, hcme] at ho hm'
      rw [tz_n0, tz_y2 (by decide)]
      exact hE n m' ⟨hp, Or.inl ho⟩ ⟨fun a j k1 k2 => (hm'.1 a j k1 k2).trans (hm.1 a j k1 k2), hm'.2.1.trans hm.2⟩ hm'.2.2.1
  · have hcm := tz_cm_rng hT hp
    have hps := tz_ps_rng hT hp
    have hps' : 5 * (n : Int) ≤ tz_ps (tz_cr M0) n ∧ tz_ps (tz_cr M0) n ≤ M0.1 164 14 := hps
    have hcm1 : tz_ps (tz_cr M0) n ≤ (tz_cm (tz_cr M0) n).2.2.1 := hcm.1
    have hcm2 : (tz_cm (tz_cr M0) n).2.2.1 ≤ M0.1 164 14 := hcm.2.1
    rw [tz_n0, tz_y rfl, hi, eL, tz_n (x := (tz_cm (tz_cr M0) n).2.2.1) (by omega) (by omega), tz_n (x := M0.1 164 14) (by omega) (by omega)]
    by_cases c1 : (tz_cm (tz_cr M0) n).2.2.1 = M0.1 164 14
    · rw [tz_y2 c1]
      exact ⟨Or.inr rfl, hG n m ⟨hp, ho, c1⟩ hm⟩
    · rw [tz_x2 c1]
      exact ⟨Or.inl rfl, hE n m ⟨hp, Or.inr ⟨c1, hc⟩⟩ hm hi⟩
end TZV
