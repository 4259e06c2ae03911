def wX12_spoonBySugar_B55  (k7 : Int → Int → ts_M → Prop) (k22 : Int → Int → Int → Int → ts_M → Prop) (Q : Int → ts_M → Prop)  (y1 : Int) (y2 : Int) (y4 : Int) (z0 : Int) (z1 : Int) (M : ts_M) : Prop :=
  (∀ x8 : Int, x8 = z1 + z0 → (∀ x9 : Int, x9 = y4 + 1 → k22 y1 y2 x8 x9 M))
def wX12_spoonBySugar_B54  (k7 : Int → Int → ts_M → Prop) (k22 : Int → Int → Int → Int → ts_M → Prop) (Q : Int → ts_M → Prop)  (y1 : Int) (y2 : Int) (y4 : Int) (z0 : Int) (M : ts_M) : Prop :=
  wX12_spoonBySugar_B55 k7 k22 Q y1 y2 y4 0 z0 M
def wX12_spoonBySugar_L22  (k7 : Int → Int → ts_M → Prop) (Q : Int → ts_M → Prop) (k22 : Int → Int → Int → Int → ts_M → Prop) (y1 : Int) (y2 : Int) (y3 : Int) (y4 : Int) (M : ts_M) : Prop :=
  ((ts_w (M.1 165 0) ≤ ts_w y4 → ((¬ (ts_w y3 = ts_w y1) → (∀ x7 : Int, x7 = y2 + 1 → k7 y1 x7 M)) ∧ (ts_w y3 = ts_w y1 → Q y2 M))) ∧ (¬ (ts_w (M.1 165 0) ≤ ts_w y4) → ((ts_w y4 = ts_w y2 → wX12_spoonBySugar_B54 k7 k22 Q y1 y2 y4 y3 M) ∧ (¬ (ts_w y4 = ts_w y2) → (wX12_isRicher y4 y2 (fun r11 M10 => ((ts_w r11 = 0 → wX12_spoonBySugar_B54 k7 k22 Q y1 y2 y4 y3 M10) ∧ (¬ (ts_w r11 = 0) → wX12_spoonBySugar_B55 k7 k22 Q y1 y2 y4 1 y3 M10))) M)))))
def wX12_spoonBySugar_L7   (Q : Int → ts_M → Prop) (k7 : Int → Int → ts_M → Prop) (y1 : Int) (y2 : Int) (M : ts_M) : Prop :=
  ((ts_w (M.1 165 0) ≤ ts_w y2 → (wX12_fails 1 (fun r4 M3 => Q r4 M3) M)) ∧ (¬ (ts_w (M.1 165 0) ≤ ts_w y2) → (∀ x5 : Int, x5 = 0 → (∀ x6 : Int, x6 = 0 → ∃ n, ts_lp4 (wX12_spoonBySugar_L22 k7 Q) n y1 y2 x5 x6 M))))
def wX12_spoonBySugar (p1 : Int) (Q : Int → ts_M → Prop) (M : ts_M) : Prop :=
  (∀ M1, M1 = ts_si M 164 0 0 → (∀ x2 : Int, x2 = 0 → ∃ n, ts_lp2 (wX12_spoonBySugar_L7 Q) n p1 x2 M1))
set_option maxRecDepth 100000 in
set_option maxHeartbeats 4000000 in
theorem mX12_spoonBySugar {l : Launch} {g : ts_W} (hl : l.stackTraces = false) {p1 : Int} {Q : Int → ts_M → Prop} {M : ts_M} : wX12_spoonBySugar p1 Q M → ts_Con l g yX12_spoonBySugar cX12_spoonBySugar 5 (some .int) 2 0 0 [.ref (ts_ad g 164), ts_v p1] M (ts_Ri Q) := by
  intro h0
  refine ts_Con.of hl (by decide) (Nat.le_of_ble_eq_true rfl) ?_
  intro p e s m args below meth c C
  have H55 : ∀ (k7 : Int → Int → ts_M → Prop) (hk7 : ∀ (y1 : Int) (y2 : Int) (M : ts_M), k7 y1 y2 M → ts_V p l e (ts_rm 2 0 0) s m args below meth c g 5 0 0 (MQ below (ts_Q g (ts_Ri Q)) args s 0 0 (ts_A g)) 7 [(0, .ref (ts_ad g 164)), (1, ts_v y1), (2, ts_v y2)] [] M) (k22 : Int → Int → Int → Int → ts_M → Prop) (hk22 : ∀ (y1 : Int) (y2 : Int) (y3 : Int) (y4 : Int) (M : ts_M), k22 y1 y2 y3 y4 M → ts_V p l e (ts_rm 2 0 0) s m args below meth c g 5 0 0 (MQ below (ts_Q g (ts_Ri Q)) args s 0 0 (ts_A g)) 22 [(0, .ref (ts_ad g 164)), (1, ts_v y1), (2, ts_v y2), (3, ts_v y3), (4, ts_v y4)] [] M) (y1 : Int) (y2 : Int) (y4 : Int) (z0 : Int) (z1 : Int) (M : ts_M), wX12_spoonBySugar_B55  k7 k22 Q y1 y2 y4 z0 z1 M → ts_V p l e (ts_rm 2 0 0) s m args below meth c g 5 0 0 (MQ below (ts_Q g (ts_Ri Q)) args s 0 0 (ts_A g)) 55 [(0, .ref (ts_ad g 164)), (1, ts_v y1), (2, ts_v y2), (4, ts_v y4)] [ts_v z0, ts_v z1] M := by
    intro k7 hk7 k22 hk22 y1 y2 y4 z0 z1 M
    unfold wX12_spoonBySugar_B55
    refine ts_iadd C dX12_spoonBySugar_55 ?_
    refine ts_istore_n C dX12_spoonBySugar_56 rfl (by decide) (lv' := fun x8 => [(3, ts_v x8), (0, .ref (ts_ad g 164)), (1, ts_v y1), (2, ts_v y2), (4, ts_v y4)]) (fun _ => rfl) (fun x8 => ?_)
    refine ts_iinc C dX12_spoonBySugar_57 4 rfl (by decide) (lv' := fun x9 => [(4, ts_v x9), (3, ts_v x8), (0, .ref (ts_ad g 164)), (1, ts_v y1), (2, ts_v y2)]) (fun _ => rfl) (fun x9 => ?_)
    refine ts_goto C 22 dX12_spoonBySugar_60 rfl ?_
    exact ts_sub [2, 3, 4, 1, 0] rfl (hk22 _ _ _ _ _)
  have H54 : ∀ (k7 : Int → Int → ts_M → Prop) (hk7 : ∀ (y1 : Int) (y2 : Int) (M : ts_M), k7 y1 y2 M → ts_V p l e (ts_rm 2 0 0) s m args below meth c g 5 0 0 (MQ below (ts_Q g (ts_Ri Q)) args s 0 0 (ts_A g)) 7 [(0, .ref (ts_ad g 164)), (1, ts_v y1), (2, ts_v y2)] [] M) (k22 : Int → Int → Int → Int → ts_M → Prop) (hk22 : ∀ (y1 : Int) (y2 : Int) (y3 : Int) (y4 : Int) (M : ts_M), k22 y1 y2 y3 y4 M → ts_V p l e (ts_rm 2 0 0) s m args below meth c g 5 0 0 (MQ below (ts_Q g (ts_Ri Q)) args s 0 0 (ts_A g)) 22 [(0, .ref (ts_ad g 164)), (1, ts_v y1), (2, ts_v y2), (3, ts_v y3), (4, ts_v y4)] [] M) (y1 : Int) (y2 : Int) (y4 : Int) (z0 : Int) (M : ts_M), wX12_spoonBySugar_B54  k7 k22 Q y1 y2 y4 z0 M → ts_V p l e (ts_rm 2 0 0) s m args below meth c g 5 0 0 (MQ below (ts_Q g (ts_Ri Q)) args s 0 0 (ts_A g)) 54 [(0, .ref (ts_ad g 164)), (1, ts_v y1), (2, ts_v y2), (4, ts_v y4)] [ts_v z0] M := by
    intro k7 hk7 k22 hk22 y1 y2 y4 z0 M
    unfold wX12_spoonBySugar_B54
    refine ts_iconst C dX12_spoonBySugar_54 0 rfl ?_
    exact ts_sub [0, 1, 2, 3] rfl (H55 k7 hk7 k22 hk22 _ _ _ _ _ _)
  have H22 : ∀ (k7 : Int → Int → ts_M → Prop) (hk7 : ∀ (y1 : Int) (y2 : Int) (M : ts_M), k7 y1 y2 M → ts_V p l e (ts_rm 2 0 0) s m args below meth c g 5 0 0 (MQ below (ts_Q g (ts_Ri Q)) args s 0 0 (ts_A g)) 7 [(0, .ref (ts_ad g 164)), (1, ts_v y1), (2, ts_v y2)] [] M) (n : Nat) (y1 : Int) (y2 : Int) (y3 : Int) (y4 : Int) (M : ts_M), ts_lp4 (wX12_spoonBySugar_L22  k7 Q) n y1 y2 y3 y4 M → ts_V p l e (ts_rm 2 0 0) s m args below meth c g 5 0 0 (MQ below (ts_Q g (ts_Ri Q)) args s 0 0 (ts_A g)) 22 [(0, .ref (ts_ad g 164)), (1, ts_v y1), (2, ts_v y2), (3, ts_v y3), (4, ts_v y4)] [] M := by
    intro k7 hk7
    refine ts_lpr4 (V := fun (y1 : Int) (y2 : Int) (y3 : Int) (y4 : Int) (M : ts_M) => ts_V p l e (ts_rm 2 0 0) s m args below meth c g 5 0 0 (MQ below (ts_Q g (ts_Ri Q)) args s 0 0 (ts_A g)) 22 [(0, .ref (ts_ad g 164)), (1, ts_v y1), (2, ts_v y2), (3, ts_v y3), (4, ts_v y4)] [] M) ?_
    intro k22 hk22 y1 y2 y3 y4 M
    unfold wX12_spoonBySugar_L22
    refine ts_iload C dX12_spoonBySugar_22 4 rfl ?_
    refine ts_aload_n C dX12_spoonBySugar_24 rfl 0 rfl ?_
    refine tgX12_1 C q_1959 dX12_spoonBySugar_25 ?_
    refine ts_iconst C dX12_spoonBySugar_28 0 rfl ?_
    refine ts_ialdc C (by decide) shG165 tw_0 (by decide) dX12_spoonBySugar_29 ?_
    refine ts_cmp_ge C rfl rfl 63 dX12_spoonBySugar_30 rfl ?_ ?_
    · refine ts_iload_n C dX12_spoonBySugar_63 rfl 3 rfl ?_
      refine ts_iload_n C dX12_spoonBySugar_64 rfl 1 rfl ?_
      refine ts_cmp_ne C rfl rfl 70 dX12_spoonBySugar_65 rfl ?_ ?_
      · refine ts_iinc C dX12_spoonBySugar_70 2 rfl (by decide) (lv' := fun x7 => [(2, ts_v x7), (0, .ref (ts_ad g 164)), (1, ts_v y1), (3, ts_v y3), (4, ts_v y4)]) (fun _ => rfl) (fun x7 => ?_)
        refine ts_goto C 7 dX12_spoonBySugar_73 rfl ?_
        exact ts_sub [1, 2, 0] rfl (hk7 _ _ _)
      · refine ts_iload_n C dX12_spoonBySugar_68 rfl 2 rfl ?_
        exact ts_ireti C (Nat.zero_le _) (Nat.zero_le _) dX12_spoonBySugar_69
    · refine ts_iload_n C dX12_spoonBySugar_33 rfl 3 rfl ?_
      refine ts_iload C dX12_spoonBySugar_34 4 rfl ?_
      refine ts_iload_n C dX12_spoonBySugar_36 rfl 2 rfl ?_
      refine ts_cmp_eq C rfl rfl 54 dX12_spoonBySugar_37 rfl ?_ ?_
      · exact ts_sub [0, 1, 2, 4] rfl (H54 k7 hk7 k22 hk22 _ _ _ _ _)
      · refine ts_aload_n C dX12_spoonBySugar_40 rfl 0 rfl ?_
        refine ts_iload C dX12_spoonBySugar_41 4 rfl ?_
        refine ts_iload_n C dX12_spoonBySugar_43 rfl 2 rfl ?_
        refine ts_callVi C [ts_v y4, ts_v y2] (mX12_isRicher hl) kX12_isRicher q_2318 (by decide) shX12 rfl rfl rfl (Nat.le_of_ble_eq_true rfl) ⟨Nat.le_of_ble_eq_true rfl, Nat.le_of_ble_eq_true rfl⟩ ⟨Nat.le_of_ble_eq_true rfl, Nat.le_of_ble_eq_true rfl⟩ dX12_spoonBySugar_44 (fun r11 M10 => ?_)
        refine ts_cm0_eq C rfl 54 dX12_spoonBySugar_47 rfl ?_ ?_
        · exact ts_sub [0, 1, 2, 4] rfl (H54 k7 hk7 k22 hk22 _ _ _ _ _)
        · refine ts_iconst C dX12_spoonBySugar_50 1 rfl ?_
          refine ts_goto C 55 dX12_spoonBySugar_51 rfl ?_
          exact ts_sub [0, 1, 2, 4] rfl (H55 k7 hk7 k22 hk22 _ _ _ _ _ _)
  have H7 : ∀ (n : Nat) (y1 : Int) (y2 : Int) (M : ts_M), ts_lp2 (wX12_spoonBySugar_L7   Q) n y1 y2 M → ts_V p l e (ts_rm 2 0 0) s m args below meth c g 5 0 0 (MQ below (ts_Q g (ts_Ri Q)) args s 0 0 (ts_A g)) 7 [(0, .ref (ts_ad g 164)), (1, ts_v y1), (2, ts_v y2)] [] M := by
    refine ts_lpr2 (V := fun (y1 : Int) (y2 : Int) (M : ts_M) => ts_V p l e (ts_rm 2 0 0) s m args below meth c g 5 0 0 (MQ below (ts_Q g (ts_Ri Q)) args s 0 0 (ts_A g)) 7 [(0, .ref (ts_ad g 164)), (1, ts_v y1), (2, ts_v y2)] [] M) ?_
    intro k7 hk7 y1 y2 M
    unfold wX12_spoonBySugar_L7
    refine ts_iload_n C dX12_spoonBySugar_7 rfl 2 rfl ?_
    refine ts_aload_n C dX12_spoonBySugar_8 rfl 0 rfl ?_
    refine tgX12_1 C q_1959 dX12_spoonBySugar_9 ?_
    refine ts_iconst C dX12_spoonBySugar_12 0 rfl ?_
    refine ts_ialdc C (by decide) shG165 tw_0 (by decide) dX12_spoonBySugar_13 ?_
    refine ts_cmp_ge C rfl rfl 76 dX12_spoonBySugar_14 rfl ?_ ?_
    · refine ts_aload_n C dX12_spoonBySugar_76 rfl 0 rfl ?_
      refine ts_iconst C dX12_spoonBySugar_77 1 rfl ?_
      refine ts_callVi C [ts_v 1] (mX12_fails hl) kX12_fails q_2037 (by decide) shX12 rfl rfl rfl (Nat.le_of_ble_eq_true rfl) ⟨Nat.le_of_ble_eq_true rfl, Nat.le_of_ble_eq_true rfl⟩ ⟨Nat.le_of_ble_eq_true rfl, Nat.le_of_ble_eq_true rfl⟩ dX12_spoonBySugar_78 (fun r4 M3 => ?_)
      exact ts_ireti C (Nat.zero_le _) (Nat.zero_le _) dX12_spoonBySugar_81
    · refine ts_iconst C dX12_spoonBySugar_17 0 rfl ?_
      refine ts_istore_n C dX12_spoonBySugar_18 rfl (by decide) (lv' := fun x5 => [(3, ts_v x5), (0, .ref (ts_ad g 164)), (1, ts_v y1), (2, ts_v y2)]) (fun _ => rfl) (fun x5 => ?_)
      refine ts_iconst C dX12_spoonBySugar_19 0 rfl ?_
      refine ts_istore C dX12_spoonBySugar_20 (by decide) (lv' := fun x6 => [(4, ts_v x6), (3, ts_v x5), (0, .ref (ts_ad g 164)), (1, ts_v y1), (2, ts_v y2)]) (fun _ => rfl) (fun x6 => ?_)
      rintro ⟨n, hn⟩
      exact ts_sub [2, 3, 4, 1, 0] rfl (H22 k7 hk7 n _ _ _ _ _) hn
  revert h0
  unfold wX12_spoonBySugar
  have hl0 : lv_args 0 [.ref (ts_ad g 164), ts_v p1] = [(0, .ref (ts_ad g 164)), (1, ts_v p1)] := rfl
  rw [hl0]
  refine ts_aload_n C dX12_spoonBySugar_0 rfl 0 rfl ?_
  refine ts_iconst C dX12_spoonBySugar_1 0 rfl ?_
  refine tpX12_0 C q_1958 dX12_spoonBySugar_2 (fun M1 => ?_)
  refine ts_iconst C dX12_spoonBySugar_5 0 rfl ?_
  refine ts_istore_n C dX12_spoonBySugar_6 rfl (by decide) (lv' := fun x2 => [(2, ts_v x2), (0, .ref (ts_ad g 164)), (1, ts_v p1)]) (fun _ => rfl) (fun x2 => ?_)
  rintro ⟨n, hn⟩
  exact ts_sub [1, 2, 0] rfl (H7 n _ _ _) hn
def wX12_proposalCount (Q : Int → ts_M → Prop) (M : ts_M) : Prop :=
  (wX12_told 1 (fun r2 M1 => Q r2 M1) M)
set_option maxRecDepth 100000 in
set_option maxHeartbeats 4000000 in
theorem mX12_proposalCount {l : Launch} {g : ts_W} (hl : l.stackTraces = false) {Q : Int → ts_M → Prop} {M : ts_M} : wX12_proposalCount Q M → ts_Con l g yX12_proposalCount cX12_proposalCount 1 (some .int) 1 0 0 [.ref (ts_ad g 164)] M (ts_Ri Q) := by
  intro h0
  refine ts_Con.of hl (by decide) (Nat.le_of_ble_eq_true rfl) ?_
  intro p e s m args below meth c C
  revert h0
  unfold wX12_proposalCount
  have hl0 : lv_args 0 [.ref (ts_ad g 164)] = [(0, .ref (ts_ad g 164))] := rfl
  rw [hl0]
  refine ts_aload_n C dX12_proposalCount_0 rfl 0 rfl ?_
  refine ts_iconst C dX12_proposalCount_1 1 rfl ?_
  refine ts_callVi C [ts_v 1] (mX12_told hl) kX12_told q_2290 (by decide) shX12 rfl rfl rfl (Nat.le_of_ble_eq_true rfl) ⟨Nat.le_of_ble_eq_true rfl, Nat.le_of_ble_eq_true rfl⟩ ⟨Nat.le_of_ble_eq_true rfl, Nat.le_of_ble_eq_true rfl⟩ dX12_proposalCount_2 (fun r2 M1 => ?_)
  exact ts_ireti C (Nat.zero_le _) (Nat.zero_le _) dX12_proposalCount_5
def wX12_proposalAt_B34   (Q : Int → ts_M → Prop)  (z0 : Int) (M : ts_M) : Prop :=
  Q z0 M
def wX12_proposalAt (p1 : Int) (Q : Int → ts_M → Prop) (M : ts_M) : Prop :=
  (∀ M1, M1 = ts_si M 164 0 0 → (wX12_isBetween p1 0 ((M1.1 165 1) - 1) (fun r3 M2 => ((ts_w r3 = 0 → (wX12_fails 1 (fun r5 M4 => wX12_proposalAt_B34 Q r5 M4) M2)) ∧ (¬ (ts_w r3 = 0) → (wX12_idAt p1 (fun r7 M6 => wX12_proposalAt_B34 Q r7 M6) M2)))) M1))
set_option maxRecDepth 100000 in
set_option maxHeartbeats 4000000 in
theorem mX12_proposalAt {l : Launch} {g : ts_W} (hl : l.stackTraces = false) {p1 : Int} {Q : Int → ts_M → Prop} {M : ts_M} : wX12_proposalAt p1 Q M → ts_Con l g yX12_proposalAt cX12_proposalAt 2 (some .int) 1 0 0 [.ref (ts_ad g 164), ts_v p1] M (ts_Ri Q) := by
  intro h0
  refine ts_Con.of hl (by decide) (Nat.le_of_ble_eq_true rfl) ?_
  intro p e s m args below meth c C
  have H34 : ∀ (z0 : Int) (M : ts_M), wX12_proposalAt_B34   Q z0 M → ts_V p l e (ts_rm 1 0 0) s m args below meth c g 2 0 0 (MQ below (ts_Q g (ts_Ri Q)) args s 0 0 (ts_A g)) 34 [] [ts_v z0] M := by
    intro  z0 M
    unfold wX12_proposalAt_B34
    exact ts_ireti C (Nat.zero_le _) (Nat.zero_le _) dX12_proposalAt_34
  revert h0
  unfold wX12_proposalAt
  have hl0 : lv_args 0 [.ref (ts_ad g 164), ts_v p1] = [(0, .ref (ts_ad g 164)), (1, ts_v p1)] := rfl
  rw [hl0]
  refine ts_aload_n C dX12_proposalAt_0 rfl 0 rfl ?_
  refine ts_iconst C dX12_proposalAt_1 0 rfl ?_
  refine tpX12_0 C q_1958 dX12_proposalAt_2 (fun M1 => ?_)
  refine ts_iload_n C dX12_proposalAt_5 rfl 1 rfl ?_
  refine ts_iconst C dX12_proposalAt_6 0 rfl ?_
  refine ts_aload_n C dX12_proposalAt_7 rfl 0 rfl ?_
  refine tgX12_1 C q_1959 dX12_proposalAt_8 ?_
  refine ts_iconst C dX12_proposalAt_11 1 rfl ?_
  refine ts_ialdc C (by decide) shG165 tw_1 (by decide) dX12_proposalAt_12 ?_
  refine ts_iconst C dX12_proposalAt_13 1 rfl ?_
  refine ts_isub C dX12_proposalAt_14 ?_
  refine ts_callSi C [ts_v p1, ts_v 0, ts_v ((M1.1 165 1) - 1)] (mX12_isBetween hl) kX12_isBetween q_2034 rfl rfl (Nat.le_of_ble_eq_true rfl) ⟨Nat.le_of_ble_eq_true rfl, Nat.le_of_ble_eq_true rfl⟩ ⟨Nat.le_of_ble_eq_true rfl, Nat.le_of_ble_eq_true rfl⟩ dX12_proposalAt_15 (fun r3 M2 => ?_)
  refine ts_cm0_eq C rfl 29 dX12_proposalAt_18 rfl ?_ ?_
  · refine ts_aload_n C dX12_proposalAt_29 rfl 0 rfl ?_
    refine ts_iconst C dX12_proposalAt_30 1 rfl ?_
    refine ts_callVi C [ts_v 1] (mX12_fails hl) kX12_fails q_2037 (by decide) shX12 rfl rfl rfl (Nat.le_of_ble_eq_true rfl) ⟨Nat.le_of_ble_eq_true rfl, Nat.le_of_ble_eq_true rfl⟩ ⟨Nat.le_of_ble_eq_true rfl, Nat.le_of_ble_eq_true rfl⟩ dX12_proposalAt_31 (fun r5 M4 => ?_)
    exact ts_sub [] rfl (H34 _ _)
  · refine ts_aload_n C dX12_proposalAt_21 rfl 0 rfl ?_
    refine ts_iload_n C dX12_proposalAt_22 rfl 1 rfl ?_
    refine ts_callVi C [ts_v p1] (mX12_idAt hl) kX12_idAt q_2089 (by decide) shX12 rfl rfl rfl (Nat.le_of_ble_eq_true rfl) ⟨Nat.le_of_ble_eq_true rfl, Nat.le_of_ble_eq_true rfl⟩ ⟨Nat.le_of_ble_eq_true rfl, Nat.le_of_ble_eq_true rfl⟩ dX12_proposalAt_23 (fun r7 M6 => ?_)
    refine ts_goto C 34 dX12_proposalAt_26 rfl ?_
    exact ts_sub [] rfl (H34 _ _)
def wX12_position_B30   (Q : Int → ts_M → Prop)  (z0 : Int) (M : ts_M) : Prop :=
  Q z0 M
def wX12_position (p1 : Int) (Q : Int → ts_M → Prop) (M : ts_M) : Prop :=
  (∀ M1, M1 = ts_si M 164 0 0 → (wX12_place p1 (fun r3 M2 => ((0 ≤ ts_w r3 → (wX12_place p1 (fun r5 M4 => (wX12_positionAt r5 (fun r7 M6 => wX12_position_B30 Q r7 M6) M4)) M2)) ∧ (¬ (0 ≤ ts_w r3) → (wX12_fails 1 (fun r9 M8 => wX12_position_B30 Q r9 M8) M2)))) M1))
set_option maxRecDepth 100000 in
set_option maxHeartbeats 4000000 in
theorem mX12_position {l : Launch} {g : ts_W} (hl : l.stackTraces = false) {p1 : Int} {Q : Int → ts_M → Prop} {M : ts_M} : wX12_position p1 Q M → ts_Con l g yX12_position cX12_position 2 (some .int) 2 0 0 [.ref (ts_ad g 164), ts_v p1] M (ts_Ri Q) := by
  intro h0
  refine ts_Con.of hl (by decide) (Nat.le_of_ble_eq_true rfl) ?_
  intro p e s m args below meth c C
  have H30 : ∀ (z0 : Int) (M : ts_M), wX12_position_B30   Q z0 M → ts_V p l e (ts_rm 2 0 0) s m args below meth c g 2 0 0 (MQ below (ts_Q g (ts_Ri Q)) args s 0 0 (ts_A g)) 30 [] [ts_v z0] M := by
    intro  z0 M
    unfold wX12_position_B30
    exact ts_ireti C (Nat.zero_le _) (Nat.zero_le _) dX12_position_30
  revert h0
  unfold wX12_position
  have hl0 : lv_args 0 [.ref (ts_ad g 164), ts_v p1] = [(0, .ref (ts_ad g 164)), (1, ts_v p1)] := rfl
  rw [hl0]
  refine ts_aload_n C dX12_position_0 rfl 0 rfl ?_
  refine ts_iconst C dX12_position_1 0 rfl ?_
  refine tpX12_0 C q_1958 dX12_position_2 (fun M1 => ?_)
  refine ts_aload_n C dX12_position_5 rfl 0 rfl ?_
  refine ts_iload_n C dX12_position_6 rfl 1 rfl ?_
  refine ts_callVi C [ts_v p1] (mX12_place hl) kX12_place q_2085 (by decide) shX12 rfl rfl rfl (Nat.le_of_ble_eq_true rfl) ⟨Nat.le_of_ble_eq_true rfl, Nat.le_of_ble_eq_true rfl⟩ ⟨Nat.le_of_ble_eq_true rfl, Nat.le_of_ble_eq_true rfl⟩ dX12_position_7 (fun r3 M2 => ?_)
  refine ts_cm0_ge C rfl 21 dX12_position_10 rfl ?_ ?_
  · refine ts_aload_n C dX12_position_21 rfl 0 rfl ?_
    refine ts_aload_n C dX12_position_22 rfl 0 rfl ?_
    refine ts_iload_n C dX12_position_23 rfl 1 rfl ?_
    refine ts_callVi C [ts_v p1] (mX12_place hl) kX12_place q_2085 (by decide) shX12 rfl rfl rfl (Nat.le_of_ble_eq_true rfl) ⟨Nat.le_of_ble_eq_true rfl, Nat.le_of_ble_eq_true rfl⟩ ⟨Nat.le_of_ble_eq_true rfl, Nat.le_of_ble_eq_true rfl⟩ dX12_position_24 (fun r5 M4 => ?_)
    refine ts_callVi C [ts_v r5] (mX12_positionAt hl) kX12_positionAt q_2189 (by decide) shX12 rfl rfl rfl (Nat.le_of_ble_eq_true rfl) ⟨Nat.le_of_ble_eq_true rfl, Nat.le_of_ble_eq_true rfl⟩ ⟨Nat.le_of_ble_eq_true rfl, Nat.le_of_ble_eq_true rfl⟩ dX12_position_27 (fun r7 M6 => ?_)
    exact ts_sub [] rfl (H30 _ _)
  · refine ts_aload_n C dX12_position_13 rfl 0 rfl ?_
    refine ts_iconst C dX12_position_14 1 rfl ?_
    refine ts_callVi C [ts_v 1] (mX12_fails hl) kX12_fails q_2037 (by decide) shX12 rfl rfl rfl (Nat.le_of_ble_eq_true rfl) ⟨Nat.le_of_ble_eq_true rfl, Nat.le_of_ble_eq_true rfl⟩ ⟨Nat.le_of_ble_eq_true rfl, Nat.le_of_ble_eq_true rfl⟩ dX12_position_15 (fun r9 M8 => ?_)
    refine ts_goto C 30 dX12_position_18 rfl ?_
    exact ts_sub [] rfl (H30 _ _)
def wX12_motionCount (Q : Int → ts_M → Prop) (M : ts_M) : Prop :=
  (wX12_told 3 (fun r2 M1 => Q r2 M1) M)
set_option maxRecDepth 100000 in
set_option maxHeartbeats 4000000 in
theorem mX12_motionCount {l : Launch} {g : ts_W} (hl : l.stackTraces = false) {Q : Int → ts_M → Prop} {M : ts_M} : wX12_motionCount Q M → ts_Con l g yX12_motionCount cX12_motionCount 1 (some .int) 1 0 0 [.ref (ts_ad g 164)] M (ts_Ri Q) := by
  intro h0
  refine ts_Con.of hl (by decide) (Nat.le_of_ble_eq_true rfl) ?_
  intro p e s m args below meth c C
  revert h0
  unfold wX12_motionCount
  have hl0 : lv_args 0 [.ref (ts_ad g 164)] = [(0, .ref (ts_ad g 164))] := rfl
  rw [hl0]
  refine ts_aload_n C dX12_motionCount_0 rfl 0 rfl ?_
  refine ts_iconst C dX12_motionCount_1 3 rfl ?_
  refine ts_callVi C [ts_v 3] (mX12_told hl) kX12_told q_2290 (by decide) shX12 rfl rfl rfl (Nat.le_of_ble_eq_true rfl) ⟨Nat.le_of_ble_eq_true rfl, Nat.le_of_ble_eq_true rfl⟩ ⟨Nat.le_of_ble_eq_true rfl, Nat.le_of_ble_eq_true rfl⟩ dX12_motionCount_2 (fun r2 M1 => ?_)
  exact ts_ireti C (Nat.zero_le _) (Nat.zero_le _) dX12_motionCount_5
def wX12_signOf (p1 : Int) (Q : Int → ts_M → Prop) (M : ts_M) : Prop :=
  ((ts_w p1 = 0 → Q 109 M) ∧ (¬ (ts_w p1 = 0) → ((ts_w p1 = 1 → Q 97 M) ∧ (¬ (ts_w p1 = 1) → ((ts_w p1 = 2 → Q 112 M) ∧ (¬ (ts_w p1 = 2) → ((ts_w p1 = 3 → Q 99 M) ∧ (¬ (ts_w p1 = 3) → Q 106 M))))))))
set_option maxRecDepth 100000 in
set_option maxHeartbeats 4000000 in
theorem mX12_signOf {l : Launch} {g : ts_W} (hl : l.stackTraces = false) {p1 : Int} {Q : Int → ts_M → Prop} {M : ts_M} : wX12_signOf p1 Q M → ts_Con l g yX12_signOf cX12_signOf 1 (some .int) 0 0 0 [ts_v p1] M (ts_Ri Q) := by
  intro h0
  refine ts_Con.of hl (by decide) (Nat.le_of_ble_eq_true rfl) ?_
  intro p e s m args below meth c C
  revert h0
  unfold wX12_signOf
  have hl0 : lv_args 0 [ts_v p1] = [(0, ts_v p1)] := rfl
  rw [hl0]
  refine ts_iload_n C dX12_signOf_0 rfl 0 rfl ?_
  refine ts_case rfl 0 (fun e0 => ?_) (fun e0 => ?_)
  · refine ts_tabIn C 0 e0 32 dX12_signOf_1 (by decide) (by decide) rfl rfl ?_
    refine ts_bipush C dX12_signOf_32 109 tb_109 ?_
    exact ts_ireti C (Nat.zero_le _) (Nat.zero_le _) dX12_signOf_34
  · refine ts_case rfl 1 (fun e1 => ?_) (fun e1 => ?_)
    · refine ts_tabIn C 1 e1 35 dX12_signOf_1 (by decide) (by decide) rfl rfl ?_
      refine ts_bipush C dX12_signOf_35 97 tb_97 ?_
      exact ts_ireti C (Nat.zero_le _) (Nat.zero_le _) dX12_signOf_37
    · refine ts_case rfl 2 (fun e2 => ?_) (fun e2 => ?_)
      · refine ts_tabIn C 2 e2 38 dX12_signOf_1 (by decide) (by decide) rfl rfl ?_
        refine ts_bipush C dX12_signOf_38 112 tb_112 ?_
        exact ts_ireti C (Nat.zero_le _) (Nat.zero_le _) dX12_signOf_40
      · refine ts_case rfl 3 (fun e3 => ?_) (fun e3 => ?_)
        · refine ts_tabIn C 3 e3 41 dX12_signOf_1 (by decide) (by decide) rfl rfl ?_
          refine ts_bipush C dX12_signOf_41 99 tb_99 ?_
          exact ts_ireti C (Nat.zero_le _) (Nat.zero_le _) dX12_signOf_43
        · refine ts_tabOut C 44 dX12_signOf_1 (by omega) rfl ?_
          refine ts_bipush C dX12_signOf_44 106 tb_106 ?_
          exact ts_ireti C (Nat.zero_le _) (Nat.zero_le _) dX12_signOf_46
def wX12_motionKind (p1 : Int) (Q : Int → ts_M → Prop) (M : ts_M) : Prop :=
  (∀ M1, M1 = ts_si M 164 0 0 → (wX12_isBetween p1 0 ((M1.1 165 3) - 1) (fun r3 M2 => ((ts_w r3 = 0 → (wX12_fails 1 (fun r5 M4 => ((0 ≤ ts_w (ts_i2c r5) ∧ ts_w (ts_i2c r5) < 65536) ∧ Q (ts_i2c r5) M4)) M2)) ∧ (¬ (ts_w r3 = 0) → ((0 ≤ ts_w (55 + p1) ∧ ts_w (55 + p1) < ((146 : Nat) : Int)) ∧ (wX12_signOf (M2.1 165 (ts_w (55 + p1))) (fun r7 M6 => ((0 ≤ ts_w (ts_i2c r7) ∧ ts_w (ts_i2c r7) < 65536) ∧ Q (ts_i2c r7) M6)) M2))))) M1))
set_option maxRecDepth 100000 in
set_option maxHeartbeats 4000000 in
theorem mX12_motionKind {l : Launch} {g : ts_W} (hl : l.stackTraces = false) {p1 : Int} {Q : Int → ts_M → Prop} {M : ts_M} : wX12_motionKind p1 Q M → ts_Con l g yX12_motionKind cX12_motionKind 2 (some .char) 1 0 0 [.ref (ts_ad g 164), ts_v p1] M (ts_Ri Q) := by
  intro h0
  refine ts_Con.of hl (by decide) (Nat.le_of_ble_eq_true rfl) ?_
  intro p e s m args below meth c C
  revert h0
  unfold wX12_motionKind
  have hl0 : lv_args 0 [.ref (ts_ad g 164), ts_v p1] = [(0, .ref (ts_ad g 164)), (1, ts_v p1)] := rfl
  rw [hl0]
  refine ts_aload_n C dX12_motionKind_0 rfl 0 rfl ?_
  refine ts_iconst C dX12_motionKind_1 0 rfl ?_
  refine tpX12_0 C q_1958 dX12_motionKind_2 (fun M1 => ?_)
  refine ts_iload_n C dX12_motionKind_5 rfl 1 rfl ?_
  refine ts_iconst C dX12_motionKind_6 0 rfl ?_
  refine ts_aload_n C dX12_motionKind_7 rfl 0 rfl ?_
  refine tgX12_1 C q_1959 dX12_motionKind_8 ?_
  refine ts_iconst C dX12_motionKind_11 3 rfl ?_
  refine ts_ialdc C (by decide) shG165 tw_3 (by decide) dX12_motionKind_12 ?_
  refine ts_iconst C dX12_motionKind_13 1 rfl ?_
  refine ts_isub C dX12_motionKind_14 ?_
  refine ts_callSi C [ts_v p1, ts_v 0, ts_v ((M1.1 165 3) - 1)] (mX12_isBetween hl) kX12_isBetween q_2034 rfl rfl (Nat.le_of_ble_eq_true rfl) ⟨Nat.le_of_ble_eq_true rfl, Nat.le_of_ble_eq_true rfl⟩ ⟨Nat.le_of_ble_eq_true rfl, Nat.le_of_ble_eq_true rfl⟩ dX12_motionKind_15 (fun r3 M2 => ?_)
  refine ts_cm0_eq C rfl 35 dX12_motionKind_18 rfl ?_ ?_
  · refine ts_aload_n C dX12_motionKind_35 rfl 0 rfl ?_
    refine ts_iconst C dX12_motionKind_36 1 rfl ?_
    refine ts_callVi C [ts_v 1] (mX12_fails hl) kX12_fails q_2037 (by decide) shX12 rfl rfl rfl (Nat.le_of_ble_eq_true rfl) ⟨Nat.le_of_ble_eq_true rfl, Nat.le_of_ble_eq_true rfl⟩ ⟨Nat.le_of_ble_eq_true rfl, Nat.le_of_ble_eq_true rfl⟩ dX12_motionKind_37 (fun r5 M4 => ?_)
    refine ts_i2c0 C dX12_motionKind_40 ?_
    exact ts_creti C (Nat.zero_le _) (Nat.zero_le _) dX12_motionKind_41
  · refine ts_aload_n C dX12_motionKind_21 rfl 0 rfl ?_
    refine tgX12_1 C q_1959 dX12_motionKind_22 ?_
    refine ts_bipush C dX12_motionKind_25 55 tb_55 ?_
    refine ts_iload_n C dX12_motionKind_27 rfl 1 rfl ?_
    refine ts_iadd C dX12_motionKind_28 ?_
    refine ts_iald C (by decide) shG165 dX12_motionKind_29 ?_
    refine ts_callSi C [ts_v (M2.1 165 (ts_w (55 + p1)))] (mX12_signOf hl) kX12_signOf q_2342 rfl rfl (Nat.le_of_ble_eq_true rfl) ⟨Nat.le_of_ble_eq_true rfl, Nat.le_of_ble_eq_true rfl⟩ ⟨Nat.le_of_ble_eq_true rfl, Nat.le_of_ble_eq_true rfl⟩ dX12_motionKind_30 (fun r7 M6 => ?_)
    refine ts_i2c0 C dX12_motionKind_33 ?_
    exact ts_creti C (Nat.zero_le _) (Nat.zero_le _) dX12_motionKind_34
def wX12_lies_L2   (Q : Int → ts_M → Prop) (k2 : Int → Int → ts_M → Prop) (y1 : Int) (y2 : Int) (M : ts_M) : Prop :=
  ((ts_w (M.1 165 3) ≤ ts_w y2 → Q 0 M) ∧ (¬ (ts_w (M.1 165 3) ≤ ts_w y2) → ((0 ≤ ts_w (55 + y2) ∧ ts_w (55 + y2) < ((146 : Nat) : Int)) ∧ ((¬ (ts_w (M.1 165 (ts_w (55 + y2))) = ts_w y1) → (∀ x2 : Int, x2 = y2 + 1 → k2 y1 x2 M)) ∧ (ts_w (M.1 165 (ts_w (55 + y2))) = ts_w y1 → Q 1 M)))))
def wX12_lies (p1 : Int) (Q : Int → ts_M → Prop) (M : ts_M) : Prop :=
  (∀ x1 : Int, x1 = 0 → ∃ n, ts_lp2 (wX12_lies_L2 Q) n p1 x1 M)
set_option maxRecDepth 100000 in
set_option maxHeartbeats 4000000 in
theorem mX12_lies {l : Launch} {g : ts_W} (hl : l.stackTraces = false) {p1 : Int} {Q : Int → ts_M → Prop} {M : ts_M} : wX12_lies p1 Q M → ts_Con l g yX12_lies cX12_lies 3 (some .boolean) 0 0 0 [.ref (ts_ad g 164), ts_v p1] M (ts_Ri Q) := by
  intro h0
  refine ts_Con.of hl (by decide) (Nat.le_of_ble_eq_true rfl) ?_
  intro p e s m args below meth c C
  have H2 : ∀ (n : Nat) (y1 : Int) (y2 : Int) (M : ts_M), ts_lp2 (wX12_lies_L2   Q) n y1 y2 M → ts_V p l e (ts_rm 0 0 0) s m args below meth c g 3 0 0 (MQ below (ts_Q g (ts_Ri Q)) args s 0 0 (ts_A g)) 2 [(0, .ref (ts_ad g 164)), (1, ts_v y1), (2, ts_v y2)] [] M := by
    refine ts_lpr2 (V := fun (y1 : Int) (y2 : Int) (M : ts_M) => ts_V p l e (ts_rm 0 0 0) s m args below meth c g 3 0 0 (MQ below (ts_Q g (ts_Ri Q)) args s 0 0 (ts_A g)) 2 [(0, .ref (ts_ad g 164)), (1, ts_v y1), (2, ts_v y2)] [] M) ?_
    intro k2 hk2 y1 y2 M
    unfold wX12_lies_L2
    refine ts_iload_n C dX12_lies_2 rfl 2 rfl ?_
    refine ts_aload_n C dX12_lies_3 rfl 0 rfl ?_
    refine tgX12_1 C q_1959 dX12_lies_4 ?_
    refine ts_iconst C dX12_lies_7 3 rfl ?_
    refine ts_ialdc C (by decide) shG165 tw_3 (by decide) dX12_lies_8 ?_
    refine ts_cmp_ge C rfl rfl 33 dX12_lies_9 rfl ?_ ?_
    · refine ts_iconst C dX12_lies_33 0 rfl ?_
      exact ts_zretci C (by decide) (Nat.zero_le _) (Nat.zero_le _) dX12_lies_34
    · refine ts_aload_n C dX12_lies_12 rfl 0 rfl ?_
      refine tgX12_1 C q_1959 dX12_lies_13 ?_
      refine ts_bipush C dX12_lies_16 55 tb_55 ?_
      refine ts_iload_n C dX12_lies_18 rfl 2 rfl ?_
      refine ts_iadd C dX12_lies_19 ?_
      refine ts_iald C (by decide) shG165 dX12_lies_20 ?_
      refine ts_iload_n C dX12_lies_21 rfl 1 rfl ?_
      refine ts_cmp_ne C rfl rfl 27 dX12_lies_22 rfl ?_ ?_
      · refine ts_iinc C dX12_lies_27 2 rfl (by decide) (lv' := fun x2 => [(2, ts_v x2), (0, .ref (ts_ad g 164)), (1, ts_v y1)]) (fun _ => rfl) (fun x2 => ?_)
        refine ts_goto C 2 dX12_lies_30 rfl ?_
        exact ts_sub [1, 2, 0] rfl (hk2 _ _ _)
      · refine ts_iconst C dX12_lies_25 1 rfl ?_
        exact ts_zretci C (by decide) (Nat.zero_le _) (Nat.zero_le _) dX12_lies_26
  revert h0
  unfold wX12_lies
  have hl0 : lv_args 0 [.ref (ts_ad g 164), ts_v p1] = [(0, .ref (ts_ad g 164)), (1, ts_v p1)] := rfl
  rw [hl0]
  refine ts_iconst C dX12_lies_0 0 rfl ?_
  refine ts_istore_n C dX12_lies_1 rfl (by decide) (lv' := fun x1 => [(2, ts_v x1), (0, .ref (ts_ad g 164)), (1, ts_v p1)]) (fun _ => rfl) (fun x1 => ?_)
  rintro ⟨n, hn⟩
  exact ts_sub [1, 2, 0] rfl (H2 n _ _ _) hn
def wX12_amendment_B28   (Q : Int → ts_M → Prop)  (z0 : Int) (M : ts_M) : Prop :=
  Q z0 M
def wX12_amendment (Q : Int → ts_M → Prop) (M : ts_M) : Prop :=
  (∀ M1, M1 = ts_si M 164 0 0 → (wX12_lies 1 (fun r3 M2 => ((ts_w r3 = 0 → (wX12_fails 1 (fun r5 M4 => wX12_amendment_B28 Q r5 M4) M2)) ∧ (¬ (ts_w r3 = 0) → wX12_amendment_B28 Q (M2.1 165 61) M2))) M1))
set_option maxRecDepth 100000 in
set_option maxHeartbeats 4000000 in
theorem mX12_amendment {l : Launch} {g : ts_W} (hl : l.stackTraces = false) {Q : Int → ts_M → Prop} {M : ts_M} : wX12_amendment Q M → ts_Con l g yX12_amendment cX12_amendment 1 (some .int) 1 0 0 [.ref (ts_ad g 164)] M (ts_Ri Q) := by
  intro h0
  refine ts_Con.of hl (by decide) (Nat.le_of_ble_eq_true rfl) ?_
  intro p e s m args below meth c C
  have H28 : ∀ (z0 : Int) (M : ts_M), wX12_amendment_B28   Q z0 M → ts_V p l e (ts_rm 1 0 0) s m args below meth c g 1 0 0 (MQ below (ts_Q g (ts_Ri Q)) args s 0 0 (ts_A g)) 28 [] [ts_v z0] M := by
    intro  z0 M
    unfold wX12_amendment_B28
    exact ts_ireti C (Nat.zero_le _) (Nat.zero_le _) dX12_amendment_28
  revert h0
  unfold wX12_amendment
  have hl0 : lv_args 0 [.ref (ts_ad g 164)] = [(0, .ref (ts_ad g 164))] := rfl
  rw [hl0]
  refine ts_aload_n C dX12_amendment_0 rfl 0 rfl ?_
  refine ts_iconst C dX12_amendment_1 0 rfl ?_
  refine tpX12_0 C q_1958 dX12_amendment_2 (fun M1 => ?_)
  refine ts_aload_n C dX12_amendment_5 rfl 0 rfl ?_
  refine ts_iconst C dX12_amendment_6 1 rfl ?_
  refine ts_callVi C [ts_v 1] (mX12_lies hl) kX12_lies q_2349 (by decide) shX12 rfl rfl rfl (Nat.le_of_ble_eq_true rfl) ⟨Nat.le_of_ble_eq_true rfl, Nat.le_of_ble_eq_true rfl⟩ ⟨Nat.le_of_ble_eq_true rfl, Nat.le_of_ble_eq_true rfl⟩ dX12_amendment_7 (fun r3 M2 => ?_)
  refine ts_cm0_eq C rfl 23 dX12_amendment_10 rfl ?_ ?_
  · refine ts_aload_n C dX12_amendment_23 rfl 0 rfl ?_
    refine ts_iconst C dX12_amendment_24 1 rfl ?_
    refine ts_callVi C [ts_v 1] (mX12_fails hl) kX12_fails q_2037 (by decide) shX12 rfl rfl rfl (Nat.le_of_ble_eq_true rfl) ⟨Nat.le_of_ble_eq_true rfl, Nat.le_of_ble_eq_true rfl⟩ ⟨Nat.le_of_ble_eq_true rfl, Nat.le_of_ble_eq_true rfl⟩ dX12_amendment_25 (fun r5 M4 => ?_)
    exact ts_sub [] rfl (H28 _ _)
  · refine ts_aload_n C dX12_amendment_13 rfl 0 rfl ?_
    refine tgX12_1 C q_1959 dX12_amendment_14 ?_
    refine ts_bipush C dX12_amendment_17 61 tb_61 ?_
    refine ts_ialdc C (by decide) shG165 tw_61 (by decide) dX12_amendment_19 ?_
    refine ts_goto C 28 dX12_amendment_20 rfl ?_
    exact ts_sub [] rfl (H28 _ _)
def wX12_mainProposal_B28   (Q : Int → ts_M → Prop)  (z0 : Int) (M : ts_M) : Prop :=
  Q z0 M
def wX12_mainProposal (Q : Int → ts_M → Prop) (M : ts_M) : Prop :=
  (∀ M1, M1 = ts_si M 164 0 0 → (wX12_lies 0 (fun r3 M2 => ((ts_w r3 = 0 → (wX12_fails 1 (fun r5 M4 => wX12_mainProposal_B28 Q r5 M4) M2)) ∧ (¬ (ts_w r3 = 0) → wX12_mainProposal_B28 Q (M2.1 165 60) M2))) M1))
set_option maxRecDepth 100000 in
set_option maxHeartbeats 4000000 in
theorem mX12_mainProposal {l : Launch} {g : ts_W} (hl : l.stackTraces = false) {Q : Int → ts_M → Prop} {M : ts_M} : wX12_mainProposal Q M → ts_Con l g yX12_mainProposal cX12_mainProposal 1 (some .int) 1 0 0 [.ref (ts_ad g 164)] M (ts_Ri Q) := by
  intro h0
  refine ts_Con.of hl (by decide) (Nat.le_of_ble_eq_true rfl) ?_
  intro p e s m args below meth c C
  have H28 : ∀ (z0 : Int) (M : ts_M), wX12_mainProposal_B28   Q z0 M → ts_V p l e (ts_rm 1 0 0) s m args below meth c g 1 0 0 (MQ below (ts_Q g (ts_Ri Q)) args s 0 0 (ts_A g)) 28 [] [ts_v z0] M := by
    intro  z0 M
    unfold wX12_mainProposal_B28
    exact ts_ireti C (Nat.zero_le _) (Nat.zero_le _) dX12_mainProposal_28
  revert h0
  unfold wX12_mainProposal
  have hl0 : lv_args 0 [.ref (ts_ad g 164)] = [(0, .ref (ts_ad g 164))] := rfl
  rw [hl0]
  refine ts_aload_n C dX12_mainProposal_0 rfl 0 rfl ?_
  refine ts_iconst C dX12_mainProposal_1 0 rfl ?_
  refine tpX12_0 C q_1958 dX12_mainProposal_2 (fun M1 => ?_)
  refine ts_aload_n C dX12_mainProposal_5 rfl 0 rfl ?_
  refine ts_iconst C dX12_mainProposal_6 0 rfl ?_
  refine ts_callVi C [ts_v 0] (mX12_lies hl) kX12_lies q_2349 (by decide) shX12 rfl rfl rfl (Nat.le_of_ble_eq_true rfl) ⟨Nat.le_of_ble_eq_true rfl, Nat.le_of_ble_eq_true rfl⟩ ⟨Nat.le_of_ble_eq_true rfl, Nat.le_of_ble_eq_true rfl⟩ dX12_mainProposal_7 (fun r3 M2 => ?_)
  refine ts_cm0_eq C rfl 23 dX12_mainProposal_10 rfl ?_ ?_
  · refine ts_aload_n C dX12_mainProposal_23 rfl 0 rfl ?_
    refine ts_iconst C dX12_mainProposal_24 1 rfl ?_
    refine ts_callVi C [ts_v 1] (mX12_fails hl) kX12_fails q_2037 (by decide) shX12 rfl rfl rfl (Nat.le_of_ble_eq_true rfl) ⟨Nat.le_of_ble_eq_true rfl, Nat.le_of_ble_eq_true rfl⟩ ⟨Nat.le_of_ble_eq_true rfl, Nat.le_of_ble_eq_true rfl⟩ dX12_mainProposal_25 (fun r5 M4 => ?_)
    exact ts_sub [] rfl (H28 _ _)
  · refine ts_aload_n C dX12_mainProposal_13 rfl 0 rfl ?_
    refine tgX12_1 C q_1959 dX12_mainProposal_14 ?_
    refine ts_bipush C dX12_mainProposal_17 60 tb_60 ?_
    refine ts_ialdc C (by decide) shG165 tw_60 (by decide) dX12_mainProposal_19 ?_
    refine ts_goto C 28 dX12_mainProposal_20 rfl ?_
    exact ts_sub [] rfl (H28 _ _)
def wX12_isClosed_B14   (Q : Int → ts_M → Prop)  (z0 : Int) (M : ts_M) : Prop :=
  ((ts_w z0 = 0 ∨ ts_w z0 = 1) ∧ Q z0 M)
def wX12_isClosed (Q : Int → ts_M → Prop) (M : ts_M) : Prop :=
  (wX12_told 4 (fun r2 M1 => ((¬ (ts_w r2 = 1) → wX12_isClosed_B14 Q 0 M1) ∧ (ts_w r2 = 1 → wX12_isClosed_B14 Q 1 M1))) M)
set_option maxRecDepth 100000 in
set_option maxHeartbeats 4000000 in
theorem mX12_isClosed {l : Launch} {g : ts_W} (hl : l.stackTraces = false) {Q : Int → ts_M → Prop} {M : ts_M} : wX12_isClosed Q M → ts_Con l g yX12_isClosed cX12_isClosed 1 (some .boolean) 1 0 0 [.ref (ts_ad g 164)] M (ts_Ri Q) := by
  intro h0
  refine ts_Con.of hl (by decide) (Nat.le_of_ble_eq_true rfl) ?_
  intro p e s m args below meth c C
  have H14 : ∀ (z0 : Int) (M : ts_M), wX12_isClosed_B14   Q z0 M → ts_V p l e (ts_rm 1 0 0) s m args below meth c g 1 0 0 (MQ below (ts_Q g (ts_Ri Q)) args s 0 0 (ts_A g)) 14 [] [ts_v z0] M := by
    intro  z0 M
    unfold wX12_isClosed_B14
    exact ts_zreti C (Nat.zero_le _) (Nat.zero_le _) dX12_isClosed_14
  revert h0
  unfold wX12_isClosed
  have hl0 : lv_args 0 [.ref (ts_ad g 164)] = [(0, .ref (ts_ad g 164))] := rfl
  rw [hl0]
  refine ts_aload_n C dX12_isClosed_0 rfl 0 rfl ?_
  refine ts_iconst C dX12_isClosed_1 4 rfl ?_
  refine ts_callVi C [ts_v 4] (mX12_told hl) kX12_told q_2290 (by decide) shX12 rfl rfl rfl (Nat.le_of_ble_eq_true rfl) ⟨Nat.le_of_ble_eq_true rfl, Nat.le_of_ble_eq_true rfl⟩ ⟨Nat.le_of_ble_eq_true rfl, Nat.le_of_ble_eq_true rfl⟩ dX12_isClosed_2 (fun r2 M1 => ?_)
  refine ts_iconst C dX12_isClosed_5 1 rfl ?_
  refine ts_cmp_ne C rfl tw_1 13 dX12_isClosed_6 rfl ?_ ?_
  · refine ts_iconst C dX12_isClosed_13 0 rfl ?_
    exact ts_sub [] rfl (H14 _ _)
  · refine ts_iconst C dX12_isClosed_9 1 rfl ?_
    refine ts_goto C 14 dX12_isClosed_10 rfl ?_
    exact ts_sub [] rfl (H14 _ _)
def wX12_canMove_B66   (Q : Int → ts_M → Prop)  (z0 : Int) (M : ts_M) : Prop :=
  ((ts_w z0 = 0 ∨ ts_w z0 = 1) ∧ Q z0 M)
def wX12_canMove_B46   (Q : Int → ts_M → Prop)  (z0 : Int) (M : ts_M) : Prop :=
  ((ts_w z0 = 0 ∨ ts_w z0 = 1) ∧ Q z0 M)
def wX12_canMove_B45   (Q : Int → ts_M → Prop)   (M : ts_M) : Prop :=
  wX12_canMove_B46 Q 0 M
def wX12_canMove_B41   (Q : Int → ts_M → Prop)   (M : ts_M) : Prop :=
  wX12_canMove_B46 Q 1 M
def wX12_canMove_L7   (Q : Int → ts_M → Prop) (k7 : Int → Int → ts_M → Prop) (y1 : Int) (y2 : Int) (M : ts_M) : Prop :=
  ((4 < ts_w y2 → (wX12_fails 1 (fun r4 M3 => ((ts_w r4 ≤ 0 → wX12_canMove_B66 Q 0 M3) ∧ (¬ (ts_w r4 ≤ 0) → wX12_canMove_B66 Q 1 M3))) M)) ∧ (¬ (4 < ts_w y2) → (wX12_signOf y2 (fun r6 M5 => ((¬ (ts_w r6 = ts_w y1) → (∀ x7 : Int, x7 = y2 + 1 → k7 y1 x7 M5)) ∧ (ts_w r6 = ts_w y1 → (wX12_canMake y2 (fun r9 M8 => ((ts_w r9 = 0 → wX12_canMove_B45 Q M8) ∧ (¬ (ts_w r9 = 0) → ((¬ (ts_w y2 = 0) → wX12_canMove_B41 Q M8) ∧ (ts_w y2 = 0 → ((ts_w (M8.1 165 1) ≤ 0 → wX12_canMove_B45 Q M8) ∧ (¬ (ts_w (M8.1 165 1) ≤ 0) → wX12_canMove_B41 Q M8))))))) M5)))) M)))
def wX12_canMove (p1 : Int) (Q : Int → ts_M → Prop) (M : ts_M) : Prop :=
  (∀ M1, M1 = ts_si M 164 0 0 → (∀ x2 : Int, x2 = 0 → ∃ n, ts_lp2 (wX12_canMove_L7 Q) n p1 x2 M1))
set_option maxRecDepth 100000 in
set_option maxHeartbeats 4000000 in
theorem mX12_canMove {l : Launch} {g : ts_W} (hl : l.stackTraces = false) {p1 : Int} {Q : Int → ts_M → Prop} {M : ts_M} : wX12_canMove p1 Q M → ts_Con l g yX12_canMove cX12_canMove 3 (some .boolean) 2 0 0 [.ref (ts_ad g 164), ts_v p1] M (ts_Ri Q) := by
  intro h0
  refine ts_Con.of hl (by decide) (Nat.le_of_ble_eq_true rfl) ?_
  intro p e s m args below meth c C
  have H66 : ∀ (z0 : Int) (M : ts_M), wX12_canMove_B66   Q z0 M → ts_V p l e (ts_rm 2 0 0) s m args below meth c g 3 0 0 (MQ below (ts_Q g (ts_Ri Q)) args s 0 0 (ts_A g)) 66 [] [ts_v z0] M := by
    intro  z0 M
    unfold wX12_canMove_B66
    exact ts_zreti C (Nat.zero_le _) (Nat.zero_le _) dX12_canMove_66
  have H46 : ∀ (z0 : Int) (M : ts_M), wX12_canMove_B46   Q z0 M → ts_V p l e (ts_rm 2 0 0) s m args below meth c g 3 0 0 (MQ below (ts_Q g (ts_Ri Q)) args s 0 0 (ts_A g)) 46 [] [ts_v z0] M := by
    intro  z0 M
    unfold wX12_canMove_B46
    exact ts_zreti C (Nat.zero_le _) (Nat.zero_le _) dX12_canMove_46
  have H45 : ∀  (M : ts_M), wX12_canMove_B45   Q  M → ts_V p l e (ts_rm 2 0 0) s m args below meth c g 3 0 0 (MQ below (ts_Q g (ts_Ri Q)) args s 0 0 (ts_A g)) 45 [] [] M := by
    intro   M
    unfold wX12_canMove_B45
    refine ts_iconst C dX12_canMove_45 0 rfl ?_
    exact ts_sub [] rfl (H46 _ _)
  have H41 : ∀  (M : ts_M), wX12_canMove_B41   Q  M → ts_V p l e (ts_rm 2 0 0) s m args below meth c g 3 0 0 (MQ below (ts_Q g (ts_Ri Q)) args s 0 0 (ts_A g)) 41 [] [] M := by
    intro   M
    unfold wX12_canMove_B41
    refine ts_iconst C dX12_canMove_41 1 rfl ?_
    refine ts_goto C 46 dX12_canMove_42 rfl ?_
    exact ts_sub [] rfl (H46 _ _)
  have H7 : ∀ (n : Nat) (y1 : Int) (y2 : Int) (M : ts_M), ts_lp2 (wX12_canMove_L7   Q) n y1 y2 M → ts_V p l e (ts_rm 2 0 0) s m args below meth c g 3 0 0 (MQ below (ts_Q g (ts_Ri Q)) args s 0 0 (ts_A g)) 7 [(0, .ref (ts_ad g 164)), (1, ts_v y1), (2, ts_v y2)] [] M := by
    refine ts_lpr2 (V := fun (y1 : Int) (y2 : Int) (M : ts_M) => ts_V p l e (ts_rm 2 0 0) s m args below meth c g 3 0 0 (MQ below (ts_Q g (ts_Ri Q)) args s 0 0 (ts_A g)) 7 [(0, .ref (ts_ad g 164)), (1, ts_v y1), (2, ts_v y2)] [] M) ?_
    intro k7 hk7 y1 y2 M
    unfold wX12_canMove_L7
    refine ts_iload_n C dX12_canMove_7 rfl 2 rfl ?_
    refine ts_iconst C dX12_canMove_8 4 rfl ?_
    refine ts_cmp_gt C rfl tw_4 53 dX12_canMove_9 rfl ?_ ?_
    · refine ts_aload_n C dX12_canMove_53 rfl 0 rfl ?_
      refine ts_iconst C dX12_canMove_54 1 rfl ?_
      refine ts_callVi C [ts_v 1] (mX12_fails hl) kX12_fails q_2037 (by decide) shX12 rfl rfl rfl (Nat.le_of_ble_eq_true rfl) ⟨Nat.le_of_ble_eq_true rfl, Nat.le_of_ble_eq_true rfl⟩ ⟨Nat.le_of_ble_eq_true rfl, Nat.le_of_ble_eq_true rfl⟩ dX12_canMove_55 (fun r4 M3 => ?_)
      refine ts_cm0_le C rfl 65 dX12_canMove_58 rfl ?_ ?_
      · refine ts_iconst C dX12_canMove_65 0 rfl ?_
        exact ts_sub [] rfl (H66 _ _)
      · refine ts_iconst C dX12_canMove_61 1 rfl ?_
        refine ts_goto C 66 dX12_canMove_62 rfl ?_
        exact ts_sub [] rfl (H66 _ _)
    · refine ts_iload_n C dX12_canMove_12 rfl 2 rfl ?_
      refine ts_callSi C [ts_v y2] (mX12_signOf hl) kX12_signOf q_2342 rfl rfl (Nat.le_of_ble_eq_true rfl) ⟨Nat.le_of_ble_eq_true rfl, Nat.le_of_ble_eq_true rfl⟩ ⟨Nat.le_of_ble_eq_true rfl, Nat.le_of_ble_eq_true rfl⟩ dX12_canMove_13 (fun r6 M5 => ?_)
      refine ts_iload_n C dX12_canMove_16 rfl 1 rfl ?_
      refine ts_cmp_ne C rfl rfl 47 dX12_canMove_17 rfl ?_ ?_
      · refine ts_iinc C dX12_canMove_47 2 rfl (by decide) (lv' := fun x7 => [(2, ts_v x7), (0, .ref (ts_ad g 164)), (1, ts_v y1)]) (fun _ => rfl) (fun x7 => ?_)
        refine ts_goto C 7 dX12_canMove_50 rfl ?_
        exact ts_sub [1, 2, 0] rfl (hk7 _ _ _)
      · refine ts_aload_n C dX12_canMove_20 rfl 0 rfl ?_
        refine ts_iload_n C dX12_canMove_21 rfl 2 rfl ?_
        refine ts_callVi C [ts_v y2] (mX12_canMake hl) kX12_canMake q_2093 (by decide) shX12 rfl rfl rfl (Nat.le_of_ble_eq_true rfl) ⟨Nat.le_of_ble_eq_true rfl, Nat.le_of_ble_eq_true rfl⟩ ⟨Nat.le_of_ble_eq_true rfl, Nat.le_of_ble_eq_true rfl⟩ dX12_canMove_22 (fun r9 M8 => ?_)
        refine ts_cm0_eq C rfl 45 dX12_canMove_25 rfl ?_ ?_
        · exact ts_sub [] rfl (H45 _)
        · refine ts_iload_n C dX12_canMove_28 rfl 2 rfl ?_
          refine ts_cm0_ne C rfl 41 dX12_canMove_29 rfl ?_ ?_
          · exact ts_sub [] rfl (H41 _)
          · refine ts_aload_n C dX12_canMove_32 rfl 0 rfl ?_
            refine tgX12_1 C q_1959 dX12_canMove_33 ?_
            refine ts_iconst C dX12_canMove_36 1 rfl ?_
            refine ts_ialdc C (by decide) shG165 tw_1 (by decide) dX12_canMove_37 ?_
            refine ts_cm0_le C rfl 45 dX12_canMove_38 rfl ?_ ?_
            · exact ts_sub [] rfl (H45 _)
            · exact ts_sub [] rfl (H41 _)
  revert h0
  unfold wX12_canMove
  have hl0 : lv_args 0 [.ref (ts_ad g 164), ts_v p1] = [(0, .ref (ts_ad g 164)), (1, ts_v p1)] := rfl
  rw [hl0]
  refine ts_aload_n C dX12_canMove_0 rfl 0 rfl ?_
  refine ts_iconst C dX12_canMove_1 0 rfl ?_
  refine tpX12_0 C q_1958 dX12_canMove_2 (fun M1 => ?_)
  refine ts_iconst C dX12_canMove_5 0 rfl ?_
  refine ts_istore_n C dX12_canMove_6 rfl (by decide) (lv' := fun x2 => [(2, ts_v x2), (0, .ref (ts_ad g 164)), (1, ts_v p1)]) (fun _ => rfl) (fun x2 => ?_)
  rintro ⟨n, hn⟩
  exact ts_sub [1, 2, 0] rfl (H7 n _ _ _) hn
def wX12_yesVotes_B26   (Q : Int → ts_M → Prop)  (z0 : Int) (M : ts_M) : Prop :=
  Q z0 M
def wX12_yesVotes (Q : Int → ts_M → Prop) (M : ts_M) : Prop :=
  (∀ M1, M1 = ts_si M 164 0 0 → ((¬ (ts_w (M1.1 165 3) = 0) → (wX12_yes  (fun r3 M2 => wX12_yesVotes_B26 Q r3 M2) M1)) ∧ (ts_w (M1.1 165 3) = 0 → (wX12_fails 1 (fun r5 M4 => wX12_yesVotes_B26 Q r5 M4) M1))))
set_option maxRecDepth 100000 in
set_option maxHeartbeats 4000000 in
theorem mX12_yesVotes {l : Launch} {g : ts_W} (hl : l.stackTraces = false) {Q : Int → ts_M → Prop} {M : ts_M} : wX12_yesVotes Q M → ts_Con l g yX12_yesVotes cX12_yesVotes 1 (some .int) 6 0 0 [.ref (ts_ad g 164)] M (ts_Ri Q) := by
  intro h0
  refine ts_Con.of hl (by decide) (Nat.le_of_ble_eq_true rfl) ?_
  intro p e s m args below meth c C
  have H26 : ∀ (z0 : Int) (M : ts_M), wX12_yesVotes_B26   Q z0 M → ts_V p l e (ts_rm 6 0 0) s m args below meth c g 1 0 0 (MQ below (ts_Q g (ts_Ri Q)) args s 0 0 (ts_A g)) 26 [] [ts_v z0] M := by
    intro  z0 M
    unfold wX12_yesVotes_B26
    exact ts_ireti C (Nat.zero_le _) (Nat.zero_le _) dX12_yesVotes_26
  revert h0
  unfold wX12_yesVotes
  have hl0 : lv_args 0 [.ref (ts_ad g 164)] = [(0, .ref (ts_ad g 164))] := rfl
  rw [hl0]
  refine ts_aload_n C dX12_yesVotes_0 rfl 0 rfl ?_
  refine ts_iconst C dX12_yesVotes_1 0 rfl ?_
  refine tpX12_0 C q_1958 dX12_yesVotes_2 (fun M1 => ?_)
  refine ts_aload_n C dX12_yesVotes_5 rfl 0 rfl ?_
  refine tgX12_1 C q_1959 dX12_yesVotes_6 ?_
  refine ts_iconst C dX12_yesVotes_9 3 rfl ?_
  refine ts_ialdc C (by decide) shG165 tw_3 (by decide) dX12_yesVotes_10 ?_
  refine ts_cm0_ne C rfl 22 dX12_yesVotes_11 rfl ?_ ?_
  · refine ts_aload_n C dX12_yesVotes_22 rfl 0 rfl ?_
    refine ts_callVi C [] (mX12_yes hl) kX12_yes q_2173 (by decide) shX12 rfl rfl rfl (Nat.le_of_ble_eq_true rfl) ⟨Nat.le_of_ble_eq_true rfl, Nat.le_of_ble_eq_true rfl⟩ ⟨Nat.le_of_ble_eq_true rfl, Nat.le_of_ble_eq_true rfl⟩ dX12_yesVotes_23 (fun r3 M2 => ?_)
    exact ts_sub [] rfl (H26 _ _)
  · refine ts_aload_n C dX12_yesVotes_14 rfl 0 rfl ?_
    refine ts_iconst C dX12_yesVotes_15 1 rfl ?_
    refine ts_callVi C [ts_v 1] (mX12_fails hl) kX12_fails q_2037 (by decide) shX12 rfl rfl rfl (Nat.le_of_ble_eq_true rfl) ⟨Nat.le_of_ble_eq_true rfl, Nat.le_of_ble_eq_true rfl⟩ ⟨Nat.le_of_ble_eq_true rfl, Nat.le_of_ble_eq_true rfl⟩ dX12_yesVotes_16 (fun r5 M4 => ?_)
    refine ts_goto C 26 dX12_yesVotes_19 rfl ?_
    exact ts_sub [] rfl (H26 _ _)
def wX12_wouldPass_B27   (Q : Int → ts_M → Prop)  (z0 : Int) (M : ts_M) : Prop :=
  ((ts_w z0 = 0 ∨ ts_w z0 = 1) ∧ Q z0 M)
def wX12_wouldPass (Q : Int → ts_M → Prop) (M : ts_M) : Prop :=
  (∀ M1, M1 = ts_si M 164 0 0 → ((¬ (ts_w (M1.1 165 3) = 0) → (wX12_isAdopted  (fun r3 M2 => ((ts_w r3 = 0 ∨ ts_w r3 = 1) ∧ Q r3 M2)) M1)) ∧ (ts_w (M1.1 165 3) = 0 → (wX12_fails 1 (fun r5 M4 => ((ts_w r5 ≤ 0 → wX12_wouldPass_B27 Q 0 M4) ∧ (¬ (ts_w r5 ≤ 0) → wX12_wouldPass_B27 Q 1 M4))) M1))))
set_option maxRecDepth 100000 in
set_option maxHeartbeats 4000000 in
theorem mX12_wouldPass {l : Launch} {g : ts_W} (hl : l.stackTraces = false) {Q : Int → ts_M → Prop} {M : ts_M} : wX12_wouldPass Q M → ts_Con l g yX12_wouldPass cX12_wouldPass 1 (some .boolean) 7 0 0 [.ref (ts_ad g 164)] M (ts_Ri Q) := by
  intro h0
  refine ts_Con.of hl (by decide) (Nat.le_of_ble_eq_true rfl) ?_
  intro p e s m args below meth c C
  have H27 : ∀ (z0 : Int) (M : ts_M), wX12_wouldPass_B27   Q z0 M → ts_V p l e (ts_rm 7 0 0) s m args below meth c g 1 0 0 (MQ below (ts_Q g (ts_Ri Q)) args s 0 0 (ts_A g)) 27 [] [ts_v z0] M := by
    intro  z0 M
    unfold wX12_wouldPass_B27
    exact ts_zreti C (Nat.zero_le _) (Nat.zero_le _) dX12_wouldPass_27
  revert h0
  unfold wX12_wouldPass
  have hl0 : lv_args 0 [.ref (ts_ad g 164)] = [(0, .ref (ts_ad g 164))] := rfl
  rw [hl0]
  refine ts_aload_n C dX12_wouldPass_0 rfl 0 rfl ?_
  refine ts_iconst C dX12_wouldPass_1 0 rfl ?_
  refine tpX12_0 C q_1958 dX12_wouldPass_2 (fun M1 => ?_)
  refine ts_aload_n C dX12_wouldPass_5 rfl 0 rfl ?_
  refine tgX12_1 C q_1959 dX12_wouldPass_6 ?_
  refine ts_iconst C dX12_wouldPass_9 3 rfl ?_
  refine ts_ialdc C (by decide) shG165 tw_3 (by decide) dX12_wouldPass_10 ?_
  refine ts_cm0_ne C rfl 28 dX12_wouldPass_11 rfl ?_ ?_
  · refine ts_aload_n C dX12_wouldPass_28 rfl 0 rfl ?_
    refine ts_callVi C [] (mX12_isAdopted hl) kX12_isAdopted q_2169 (by decide) shX12 rfl rfl rfl (Nat.le_of_ble_eq_true rfl) ⟨Nat.le_of_ble_eq_true rfl, Nat.le_of_ble_eq_true rfl⟩ ⟨Nat.le_of_ble_eq_true rfl, Nat.le_of_ble_eq_true rfl⟩ dX12_wouldPass_29 (fun r3 M2 => ?_)
    exact ts_zreti C (Nat.zero_le _) (Nat.zero_le _) dX12_wouldPass_32
  · refine ts_aload_n C dX12_wouldPass_14 rfl 0 rfl ?_
    refine ts_iconst C dX12_wouldPass_15 1 rfl ?_
    refine ts_callVi C [ts_v 1] (mX12_fails hl) kX12_fails q_2037 (by decide) shX12 rfl rfl rfl (Nat.le_of_ble_eq_true rfl) ⟨Nat.le_of_ble_eq_true rfl, Nat.le_of_ble_eq_true rfl⟩ ⟨Nat.le_of_ble_eq_true rfl, Nat.le_of_ble_eq_true rfl⟩ dX12_wouldPass_16 (fun r5 M4 => ?_)
    refine ts_cm0_le C rfl 26 dX12_wouldPass_19 rfl ?_ ?_
    · refine ts_iconst C dX12_wouldPass_26 0 rfl ?_
      exact ts_sub [] rfl (H27 _ _)
    · refine ts_iconst C dX12_wouldPass_22 1 rfl ?_
      refine ts_goto C 27 dX12_wouldPass_23 rfl ?_
      exact ts_sub [] rfl (H27 _ _)
def wX12_votesYes_B49   (Q : Int → ts_M → Prop)  (z0 : Int) (M : ts_M) : Prop :=
  ((ts_w z0 = 0 ∨ ts_w z0 = 1) ∧ Q z0 M)
def wX12_votesYes_B26   (Q : Int → ts_M → Prop)  (z0 : Int) (M : ts_M) : Prop :=
  ((ts_w z0 = 0 ∨ ts_w z0 = 1) ∧ Q z0 M)
def wX12_votesYes (p1 : Int) (Q : Int → ts_M → Prop) (M : ts_M) : Prop :=
  (∀ M1, M1 = ts_si M 164 0 0 → (wX12_isSpoon p1 (fun r3 M2 => ((¬ (ts_w r3 = 0) → ((¬ (ts_w (M2.1 165 3) = 0) → (wX12_isFor p1 (fun r5 M4 => ((ts_w r5 = 0 ∨ ts_w r5 = 1) ∧ Q r5 M4)) M2)) ∧ (ts_w (M2.1 165 3) = 0 → (wX12_fails 2 (fun r7 M6 => ((ts_w r7 ≤ 0 → wX12_votesYes_B49 Q 0 M6) ∧ (¬ (ts_w r7 ≤ 0) → wX12_votesYes_B49 Q 1 M6))) M2)))) ∧ (ts_w r3 = 0 → (wX12_fails 1 (fun r9 M8 => ((ts_w r9 ≤ 0 → wX12_votesYes_B26 Q 0 M8) ∧ (¬ (ts_w r9 ≤ 0) → wX12_votesYes_B26 Q 1 M8))) M2)))) M1))
set_option maxRecDepth 100000 in
set_option maxHeartbeats 4000000 in
theorem mX12_votesYes {l : Launch} {g : ts_W} (hl : l.stackTraces = false) {p1 : Int} {Q : Int → ts_M → Prop} {M : ts_M} : wX12_votesYes p1 Q M → ts_Con l g yX12_votesYes cX12_votesYes 2 (some .boolean) 5 0 0 [.ref (ts_ad g 164), ts_v p1] M (ts_Ri Q) := by
  intro h0
  refine ts_Con.of hl (by decide) (Nat.le_of_ble_eq_true rfl) ?_
  intro p e s m args below meth c C
  have H49 : ∀ (z0 : Int) (M : ts_M), wX12_votesYes_B49   Q z0 M → ts_V p l e (ts_rm 5 0 0) s m args below meth c g 2 0 0 (MQ below (ts_Q g (ts_Ri Q)) args s 0 0 (ts_A g)) 49 [] [ts_v z0] M := by
    intro  z0 M
    unfold wX12_votesYes_B49
    exact ts_zreti C (Nat.zero_le _) (Nat.zero_le _) dX12_votesYes_49
  have H26 : ∀ (z0 : Int) (M : ts_M), wX12_votesYes_B26   Q z0 M → ts_V p l e (ts_rm 5 0 0) s m args below meth c g 2 0 0 (MQ below (ts_Q g (ts_Ri Q)) args s 0 0 (ts_A g)) 26 [] [ts_v z0] M := by
    intro  z0 M
    unfold wX12_votesYes_B26
    exact ts_zreti C (Nat.zero_le _) (Nat.zero_le _) dX12_votesYes_26
  revert h0
  unfold wX12_votesYes
  have hl0 : lv_args 0 [.ref (ts_ad g 164), ts_v p1] = [(0, .ref (ts_ad g 164)), (1, ts_v p1)] := rfl
  rw [hl0]
  refine ts_aload_n C dX12_votesYes_0 rfl 0 rfl ?_
  refine ts_iconst C dX12_votesYes_1 0 rfl ?_
  refine tpX12_0 C q_1958 dX12_votesYes_2 (fun M1 => ?_)
  refine ts_aload_n C dX12_votesYes_5 rfl 0 rfl ?_
  refine ts_iload_n C dX12_votesYes_6 rfl 1 rfl ?_
  refine ts_callVi C [ts_v p1] (mX12_isSpoon hl) kX12_isSpoon q_2145 (by decide) shX12 rfl rfl rfl (Nat.le_of_ble_eq_true rfl) ⟨Nat.le_of_ble_eq_true rfl, Nat.le_of_ble_eq_true rfl⟩ ⟨Nat.le_of_ble_eq_true rfl, Nat.le_of_ble_eq_true rfl⟩ dX12_votesYes_7 (fun r3 M2 => ?_)
  refine ts_cm0_ne C rfl 27 dX12_votesYes_10 rfl ?_ ?_
  · refine ts_aload_n C dX12_votesYes_27 rfl 0 rfl ?_
    refine tgX12_1 C q_1959 dX12_votesYes_28 ?_
    refine ts_iconst C dX12_votesYes_31 3 rfl ?_
    refine ts_ialdc C (by decide) shG165 tw_3 (by decide) dX12_votesYes_32 ?_
    refine ts_cm0_ne C rfl 50 dX12_votesYes_33 rfl ?_ ?_
    · refine ts_aload_n C dX12_votesYes_50 rfl 0 rfl ?_
      refine ts_iload_n C dX12_votesYes_51 rfl 1 rfl ?_
      refine ts_callVi C [ts_v p1] (mX12_isFor hl) kX12_isFor q_2177 (by decide) shX12 rfl rfl rfl (Nat.le_of_ble_eq_true rfl) ⟨Nat.le_of_ble_eq_true rfl, Nat.le_of_ble_eq_true rfl⟩ ⟨Nat.le_of_ble_eq_true rfl, Nat.le_of_ble_eq_true rfl⟩ dX12_votesYes_52 (fun r5 M4 => ?_)
      exact ts_zreti C (Nat.zero_le _) (Nat.zero_le _) dX12_votesYes_55
    · refine ts_aload_n C dX12_votesYes_36 rfl 0 rfl ?_
      refine ts_iconst C dX12_votesYes_37 2 rfl ?_
      refine ts_callVi C [ts_v 2] (mX12_fails hl) kX12_fails q_2037 (by decide) shX12 rfl rfl rfl (Nat.le_of_ble_eq_true rfl) ⟨Nat.le_of_ble_eq_true rfl, Nat.le_of_ble_eq_true rfl⟩ ⟨Nat.le_of_ble_eq_true rfl, Nat.le_of_ble_eq_true rfl⟩ dX12_votesYes_38 (fun r7 M6 => ?_)
      refine ts_cm0_le C rfl 48 dX12_votesYes_41 rfl ?_ ?_
      · refine ts_iconst C dX12_votesYes_48 0 rfl ?_
        exact ts_sub [] rfl (H49 _ _)
      · refine ts_iconst C dX12_votesYes_44 1 rfl ?_
        refine ts_goto C 49 dX12_votesYes_45 rfl ?_
        exact ts_sub [] rfl (H49 _ _)
  · refine ts_aload_n C dX12_votesYes_13 rfl 0 rfl ?_
    refine ts_iconst C dX12_votesYes_14 1 rfl ?_
    refine ts_callVi C [ts_v 1] (mX12_fails hl) kX12_fails q_2037 (by decide) shX12 rfl rfl rfl (Nat.le_of_ble_eq_true rfl) ⟨Nat.le_of_ble_eq_true rfl, Nat.le_of_ble_eq_true rfl⟩ ⟨Nat.le_of_ble_eq_true rfl, Nat.le_of_ble_eq_true rfl⟩ dX12_votesYes_15 (fun r9 M8 => ?_)
    refine ts_cm0_le C rfl 25 dX12_votesYes_18 rfl ?_ ?_
    · refine ts_iconst C dX12_votesYes_25 0 rfl ?_
      exact ts_sub [] rfl (H26 _ _)
    · refine ts_iconst C dX12_votesYes_21 1 rfl ?_
      refine ts_goto C 26 dX12_votesYes_22 rfl ?_
      exact ts_sub [] rfl (H26 _ _)
def wX12_supports_B65  (k5 : Int → Int → Int → Int → ts_M → Prop) (Q : Int → ts_M → Prop)  (y1 : Int) (y2 : Int) (y4 : Int) (z0 : Int) (z1 : Int) (M : ts_M) : Prop :=
  (∀ x16 : Int, x16 = z1 + z0 → (∀ x17 : Int, x17 = y4 + 1 → k5 y1 y2 x16 x17 M))
def wX12_supports_L5   (Q : Int → ts_M → Prop) (k5 : Int → Int → Int → Int → ts_M → Prop) (y1 : Int) (y2 : Int) (y3 : Int) (y4 : Int) (M : ts_M) : Prop :=
  ((ts_w (M.1 165 0) ≤ ts_w y4 → Q y3 M) ∧ (¬ (ts_w (M.1 165 0) ≤ ts_w y4) → (wX12_positionAt y1 (fun r4 M3 => (wX12_spoon y4 1 (fun r6 M5 => (wX12_difference r4 r6 (fun r8 M7 => (∀ x9 : Int, x9 = r8 → (wX12_positionAt y2 (fun r11 M10 => (wX12_spoon y4 1 (fun r13 M12 => (wX12_difference r11 r13 (fun r15 M14 => ((ts_w r15 ≤ ts_w x9 → wX12_supports_B65 k5 Q y1 y2 y4 0 y3 M14) ∧ (¬ (ts_w r15 ≤ ts_w x9) → (wX12_spoon y4 0 (fun r19 M18 => wX12_supports_B65 k5 Q y1 y2 y4 r19 y3 M18) M14)))) M12)) M10)) M7))) M5)) M3)) M)))
def wX12_supports (p1 : Int) (p2 : Int) (Q : Int → ts_M → Prop) (M : ts_M) : Prop :=
  (∀ x1 : Int, x1 = 0 → (∀ x2 : Int, x2 = 0 → ∃ n, ts_lp4 (wX12_supports_L5 Q) n p1 p2 x1 x2 M))
set_option maxRecDepth 100000 in
set_option maxHeartbeats 4000000 in
theorem mX12_supports {l : Launch} {g : ts_W} (hl : l.stackTraces = false) {p1 : Int} {p2 : Int} {Q : Int → ts_M → Prop} {M : ts_M} : wX12_supports p1 p2 Q M → ts_Con l g yX12_supports cX12_supports 6 (some .int) 1 0 0 [.ref (ts_ad g 164), ts_v p1, ts_v p2] M (ts_Ri Q) := by
  intro h0
  refine ts_Con.of hl (by decide) (Nat.le_of_ble_eq_true rfl) ?_
  intro p e s m args below meth c C
  have H65 : ∀ (k5 : Int → Int → Int → Int → ts_M → Prop) (hk5 : ∀ (y1 : Int) (y2 : Int) (y3 : Int) (y4 : Int) (M : ts_M), k5 y1 y2 y3 y4 M → ts_V p l e (ts_rm 1 0 0) s m args below meth c g 6 0 0 (MQ below (ts_Q g (ts_Ri Q)) args s 0 0 (ts_A g)) 5 [(0, .ref (ts_ad g 164)), (1, ts_v y1), (2, ts_v y2), (3, ts_v y3), (4, ts_v y4)] [] M) (y1 : Int) (y2 : Int) (y4 : Int) (z0 : Int) (z1 : Int) (M : ts_M), wX12_supports_B65  k5 Q y1 y2 y4 z0 z1 M → ts_V p l e (ts_rm 1 0 0) s m args below meth c g 6 0 0 (MQ below (ts_Q g (ts_Ri Q)) args s 0 0 (ts_A g)) 65 [(0, .ref (ts_ad g 164)), (1, ts_v y1), (2, ts_v y2), (4, ts_v y4)] [ts_v z0, ts_v z1] M := by
    intro k5 hk5 y1 y2 y4 z0 z1 M
    unfold wX12_supports_B65
    refine ts_iadd C dX12_supports_65 ?_
    refine ts_istore_n C dX12_supports_66 rfl (by decide) (lv' := fun x16 => [(3, ts_v x16), (0, .ref (ts_ad g 164)), (1, ts_v y1), (2, ts_v y2), (4, ts_v y4)]) (fun _ => rfl) (fun x16 => ?_)
    refine ts_iinc C dX12_supports_67 4 rfl (by decide) (lv' := fun x17 => [(4, ts_v x17), (3, ts_v x16), (0, .ref (ts_ad g 164)), (1, ts_v y1), (2, ts_v y2)]) (fun _ => rfl) (fun x17 => ?_)
    refine ts_goto C 5 dX12_supports_70 rfl ?_
    exact ts_sub [2, 3, 4, 1, 0] rfl (hk5 _ _ _ _ _)
  have H5 : ∀ (n : Nat) (y1 : Int) (y2 : Int) (y3 : Int) (y4 : Int) (M : ts_M), ts_lp4 (wX12_supports_L5   Q) n y1 y2 y3 y4 M → ts_V p l e (ts_rm 1 0 0) s m args below meth c g 6 0 0 (MQ below (ts_Q g (ts_Ri Q)) args s 0 0 (ts_A g)) 5 [(0, .ref (ts_ad g 164)), (1, ts_v y1), (2, ts_v y2), (3, ts_v y3), (4, ts_v y4)] [] M := by
    refine ts_lpr4 (V := fun (y1 : Int) (y2 : Int) (y3 : Int) (y4 : Int) (M : ts_M) => ts_V p l e (ts_rm 1 0 0) s m args below meth c g 6 0 0 (MQ below (ts_Q g (ts_Ri Q)) args s 0 0 (ts_A g)) 5 [(0, .ref (ts_ad g 164)), (1, ts_v y1), (2, ts_v y2), (3, ts_v y3), (4, ts_v y4)] [] M) ?_
    intro k5 hk5 y1 y2 y3 y4 M
    unfold wX12_supports_L5
    refine ts_iload C dX12_supports_5 4 rfl ?_
    refine ts_aload_n C dX12_supports_7 rfl 0 rfl ?_
    refine tgX12_1 C q_1959 dX12_supports_8 ?_
    refine ts_iconst C dX12_supports_11 0 rfl ?_
    refine ts_ialdc C (by decide) shG165 tw_0 (by decide) dX12_supports_12 ?_
    refine ts_cmp_ge C rfl rfl 73 dX12_supports_13 rfl ?_ ?_
    · refine ts_iload_n C dX12_supports_73 rfl 3 rfl ?_
      exact ts_ireti C (Nat.zero_le _) (Nat.zero_le _) dX12_supports_74
    · refine ts_aload_n C dX12_supports_16 rfl 0 rfl ?_
      refine ts_iload_n C dX12_supports_17 rfl 1 rfl ?_
      refine ts_callVi C [ts_v y1] (mX12_positionAt hl) kX12_positionAt q_2189 (by decide) shX12 rfl rfl rfl (Nat.le_of_ble_eq_true rfl) ⟨Nat.le_of_ble_eq_true rfl, Nat.le_of_ble_eq_true rfl⟩ ⟨Nat.le_of_ble_eq_true rfl, Nat.le_of_ble_eq_true rfl⟩ dX12_supports_18 (fun r4 M3 => ?_)
      refine ts_aload_n C dX12_supports_21 rfl 0 rfl ?_
      refine ts_iload C dX12_supports_22 4 rfl ?_
      refine ts_iconst C dX12_supports_24 1 rfl ?_
      refine ts_callVi C [ts_v y4, ts_v 1] (mX12_spoon hl) kX12_spoon q_2149 (by decide) shX12 rfl rfl rfl (Nat.le_of_ble_eq_true rfl) ⟨Nat.le_of_ble_eq_true rfl, Nat.le_of_ble_eq_true rfl⟩ ⟨Nat.le_of_ble_eq_true rfl, Nat.le_of_ble_eq_true rfl⟩ dX12_supports_25 (fun r6 M5 => ?_)
      refine ts_callSi C [ts_v r4, ts_v r6] (mX12_difference hl) kX12_difference q_2193 rfl rfl (Nat.le_of_ble_eq_true rfl) ⟨Nat.le_of_ble_eq_true rfl, Nat.le_of_ble_eq_true rfl⟩ ⟨Nat.le_of_ble_eq_true rfl, Nat.le_of_ble_eq_true rfl⟩ dX12_supports_28 (fun r8 M7 => ?_)
      refine ts_istore C dX12_supports_31 (by decide) (lv' := fun x9 => [(5, ts_v x9), (0, .ref (ts_ad g 164)), (1, ts_v y1), (2, ts_v y2), (3, ts_v y3), (4, ts_v y4)]) (fun _ => rfl) (fun x9 => ?_)
      refine ts_iload_n C dX12_supports_33 rfl 4 rfl ?_
      refine ts_iload C dX12_supports_34 0 rfl ?_
      refine ts_aload_n C dX12_supports_36 rfl 1 rfl ?_
      refine ts_iload_n C dX12_supports_37 rfl 3 rfl ?_
      refine ts_callVi C [ts_v y2] (mX12_positionAt hl) kX12_positionAt q_2189 (by decide) shX12 rfl rfl rfl (Nat.le_of_ble_eq_true rfl) ⟨Nat.le_of_ble_eq_true rfl, Nat.le_of_ble_eq_true rfl⟩ ⟨Nat.le_of_ble_eq_true rfl, Nat.le_of_ble_eq_true rfl⟩ dX12_supports_38 (fun r11 M10 => ?_)
      refine ts_aload_n C dX12_supports_41 rfl 1 rfl ?_
      refine ts_iload C dX12_supports_42 5 rfl ?_
      refine ts_iconst C dX12_supports_44 1 rfl ?_
      refine ts_callVi C [ts_v y4, ts_v 1] (mX12_spoon hl) kX12_spoon q_2149 (by decide) shX12 rfl rfl rfl (Nat.le_of_ble_eq_true rfl) ⟨Nat.le_of_ble_eq_true rfl, Nat.le_of_ble_eq_true rfl⟩ ⟨Nat.le_of_ble_eq_true rfl, Nat.le_of_ble_eq_true rfl⟩ dX12_supports_45 (fun r13 M12 => ?_)
      refine ts_callSi C [ts_v r11, ts_v r13] (mX12_difference hl) kX12_difference q_2193 rfl rfl (Nat.le_of_ble_eq_true rfl) ⟨Nat.le_of_ble_eq_true rfl, Nat.le_of_ble_eq_true rfl⟩ ⟨Nat.le_of_ble_eq_true rfl, Nat.le_of_ble_eq_true rfl⟩ dX12_supports_48 (fun r15 M14 => ?_)
      refine ts_cmp_ge C rfl rfl 64 dX12_supports_51 rfl ?_ ?_
      · refine ts_iconst C dX12_supports_64 0 rfl ?_
        exact ts_sub [1, 2, 3, 5] rfl (H65 k5 hk5 _ _ _ _ _ _)
      · refine ts_aload_n C dX12_supports_54 rfl 1 rfl ?_
        refine ts_iload C dX12_supports_55 5 rfl ?_
        refine ts_iconst C dX12_supports_57 0 rfl ?_
        refine ts_callVi C [ts_v y4, ts_v 0] (mX12_spoon hl) kX12_spoon q_2149 (by decide) shX12 rfl rfl rfl (Nat.le_of_ble_eq_true rfl) ⟨Nat.le_of_ble_eq_true rfl, Nat.le_of_ble_eq_true rfl⟩ ⟨Nat.le_of_ble_eq_true rfl, Nat.le_of_ble_eq_true rfl⟩ dX12_supports_58 (fun r19 M18 => ?_)
        refine ts_goto C 65 dX12_supports_61 rfl ?_
        exact ts_sub [1, 2, 3, 5] rfl (H65 k5 hk5 _ _ _ _ _ _)
  revert h0
  unfold wX12_supports
  have hl0 : lv_args 0 [.ref (ts_ad g 164), ts_v p1, ts_v p2] = [(0, .ref (ts_ad g 164)), (1, ts_v p1), (2, ts_v p2)] := rfl
  rw [hl0]
  refine ts_iconst C dX12_supports_0 0 rfl ?_
  refine ts_istore_n C dX12_supports_1 rfl (by decide) (lv' := fun x1 => [(3, ts_v x1), (0, .ref (ts_ad g 164)), (1, ts_v p1), (2, ts_v p2)]) (fun _ => rfl) (fun x1 => ?_)
  refine ts_iconst C dX12_supports_2 0 rfl ?_
  refine ts_istore C dX12_supports_3 (by decide) (lv' := fun x2 => [(4, ts_v x2), (3, ts_v x1), (0, .ref (ts_ad g 164)), (1, ts_v p1), (2, ts_v p2)]) (fun _ => rfl) (fun x2 => ?_)
  rintro ⟨n, hn⟩
  exact ts_sub [2, 3, 4, 1, 0] rfl (H5 n _ _ _ _ _) hn
def wX12_support_B21   (Q : Int → ts_M → Prop)   (M : ts_M) : Prop :=
  (wX12_fails 1 (fun r5 M4 => Q r5 M4) M)
def wX12_support (p1 : Int) (p2 : Int) (Q : Int → ts_M → Prop) (M : ts_M) : Prop :=
  (∀ M1, M1 = ts_si M 164 0 0 → (wX12_place p1 (fun r3 M2 => ((ts_w r3 < 0 → wX12_support_B21 Q M2) ∧ (¬ (ts_w r3 < 0) → (wX12_place p2 (fun r7 M6 => ((0 ≤ ts_w r7 → (wX12_place p1 (fun r9 M8 => (wX12_place p2 (fun r11 M10 => (wX12_supports r9 r11 (fun r13 M12 => Q r13 M12) M10)) M8)) M6)) ∧ (¬ (0 ≤ ts_w r7) → wX12_support_B21 Q M6))) M2)))) M1))
set_option maxRecDepth 100000 in
set_option maxHeartbeats 4000000 in
theorem mX12_support {l : Launch} {g : ts_W} (hl : l.stackTraces = false) {p1 : Int} {p2 : Int} {Q : Int → ts_M → Prop} {M : ts_M} : wX12_support p1 p2 Q M → ts_Con l g yX12_support cX12_support 3 (some .int) 2 0 0 [.ref (ts_ad g 164), ts_v p1, ts_v p2] M (ts_Ri Q) := by
  intro h0
  refine ts_Con.of hl (by decide) (Nat.le_of_ble_eq_true rfl) ?_
  intro p e s m args below meth c C
  have H21 : ∀  (M : ts_M), wX12_support_B21   Q  M → ts_V p l e (ts_rm 2 0 0) s m args below meth c g 3 0 0 (MQ below (ts_Q g (ts_Ri Q)) args s 0 0 (ts_A g)) 21 [(0, .ref (ts_ad g 164))] [] M := by
    intro   M
    unfold wX12_support_B21
    refine ts_aload_n C dX12_support_21 rfl 0 rfl ?_
    refine ts_iconst C dX12_support_22 1 rfl ?_
    refine ts_callVi C [ts_v 1] (mX12_fails hl) kX12_fails q_2037 (by decide) shX12 rfl rfl rfl (Nat.le_of_ble_eq_true rfl) ⟨Nat.le_of_ble_eq_true rfl, Nat.le_of_ble_eq_true rfl⟩ ⟨Nat.le_of_ble_eq_true rfl, Nat.le_of_ble_eq_true rfl⟩ dX12_support_23 (fun r5 M4 => ?_)
    exact ts_ireti C (Nat.zero_le _) (Nat.zero_le _) dX12_support_26
  revert h0
  unfold wX12_support
  have hl0 : lv_args 0 [.ref (ts_ad g 164), ts_v p1, ts_v p2] = [(0, .ref (ts_ad g 164)), (1, ts_v p1), (2, ts_v p2)] := rfl
  rw [hl0]
  refine ts_aload_n C dX12_support_0 rfl 0 rfl ?_
  refine ts_iconst C dX12_support_1 0 rfl ?_
  refine tpX12_0 C q_1958 dX12_support_2 (fun M1 => ?_)
  refine ts_aload_n C dX12_support_5 rfl 0 rfl ?_
  refine ts_iload_n C dX12_support_6 rfl 1 rfl ?_
  refine ts_callVi C [ts_v p1] (mX12_place hl) kX12_place q_2085 (by decide) shX12 rfl rfl rfl (Nat.le_of_ble_eq_true rfl) ⟨Nat.le_of_ble_eq_true rfl, Nat.le_of_ble_eq_true rfl⟩ ⟨Nat.le_of_ble_eq_true rfl, Nat.le_of_ble_eq_true rfl⟩ dX12_support_7 (fun r3 M2 => ?_)
  refine ts_cm0_lt C rfl 21 dX12_support_10 rfl ?_ ?_
  · exact ts_sub [0] rfl (H21 _)
  · refine ts_aload_n C dX12_support_13 rfl 0 rfl ?_
    refine ts_iload_n C dX12_support_14 rfl 2 rfl ?_
    refine ts_callVi C [ts_v p2] (mX12_place hl) kX12_place q_2085 (by decide) shX12 rfl rfl rfl (Nat.le_of_ble_eq_true rfl) ⟨Nat.le_of_ble_eq_true rfl, Nat.le_of_ble_eq_true rfl⟩ ⟨Nat.le_of_ble_eq_true rfl, Nat.le_of_ble_eq_true rfl⟩ dX12_support_15 (fun r7 M6 => ?_)
    refine ts_cm0_ge C rfl 27 dX12_support_18 rfl ?_ ?_
    · refine ts_aload_n C dX12_support_27 rfl 0 rfl ?_
      refine ts_aload_n C dX12_support_28 rfl 0 rfl ?_
      refine ts_iload_n C dX12_support_29 rfl 1 rfl ?_
      refine ts_callVi C [ts_v p1] (mX12_place hl) kX12_place q_2085 (by decide) shX12 rfl rfl rfl (Nat.le_of_ble_eq_true rfl) ⟨Nat.le_of_ble_eq_true rfl, Nat.le_of_ble_eq_true rfl⟩ ⟨Nat.le_of_ble_eq_true rfl, Nat.le_of_ble_eq_true rfl⟩ dX12_support_30 (fun r9 M8 => ?_)
      refine ts_aload_n C dX12_support_33 rfl 0 rfl ?_
      refine ts_iload_n C dX12_support_34 rfl 2 rfl ?_
      refine ts_callVi C [ts_v p2] (mX12_place hl) kX12_place q_2085 (by decide) shX12 rfl rfl rfl (Nat.le_of_ble_eq_true rfl) ⟨Nat.le_of_ble_eq_true rfl, Nat.le_of_ble_eq_true rfl⟩ ⟨Nat.le_of_ble_eq_true rfl, Nat.le_of_ble_eq_true rfl⟩ dX12_support_35 (fun r11 M10 => ?_)
      refine ts_callVi C [ts_v r9, ts_v r11] (mX12_supports hl) kX12_supports q_2381 (by decide) shX12 rfl rfl rfl (Nat.le_of_ble_eq_true rfl) ⟨Nat.le_of_ble_eq_true rfl, Nat.le_of_ble_eq_true rfl⟩ ⟨Nat.le_of_ble_eq_true rfl, Nat.le_of_ble_eq_true rfl⟩ dX12_support_38 (fun r13 M12 => ?_)
      exact ts_ireti C (Nat.zero_le _) (Nat.zero_le _) dX12_support_41
    · exact ts_sub [0] rfl (H21 _)
def wX12_costFirst_B44  (k5 : Int → Int → Int → Int → ts_M → Prop) (Q : Int → ts_M → Prop)  (y1 : Int) (y2 : Int) (y4 : Int) (z0 : Int) (z1 : Int) (M : ts_M) : Prop :=
  (∀ x3 : Int, x3 = z1 + z0 → (∀ x4 : Int, x4 = y4 + 1 → k5 y1 y2 x3 x4 M))
def wX12_costFirst_B43  (k5 : Int → Int → Int → Int → ts_M → Prop) (Q : Int → ts_M → Prop)  (y1 : Int) (y2 : Int) (y4 : Int) (z0 : Int) (M : ts_M) : Prop :=
  wX12_costFirst_B44 k5 Q y1 y2 y4 0 z0 M
def wX12_costFirst_L5   (Q : Int → ts_M → Prop) (k5 : Int → Int → Int → Int → ts_M → Prop) (y1 : Int) (y2 : Int) (y3 : Int) (y4 : Int) (M : ts_M) : Prop :=
  ((ts_w (M.1 165 1) ≤ ts_w y4 → Q y3 M) ∧ (¬ (ts_w (M.1 165 1) ≤ ts_w y4) → ((ts_w y4 = ts_w y1 → wX12_costFirst_B43 k5 Q y1 y2 y4 y3 M) ∧ (¬ (ts_w y4 = ts_w y1) → ((¬ (ts_w (ts_and (ts_shr y2 y4) 1) = 1) → wX12_costFirst_B43 k5 Q y1 y2 y4 y3 M) ∧ (ts_w (ts_and (ts_shr y2 y4) 1) = 1 → (wX12_supports y4 y1 (fun r6 M5 => wX12_costFirst_B44 k5 Q y1 y2 y4 r6 y3 M5) M)))))))
def wX12_costFirst (p1 : Int) (p2 : Int) (Q : Int → ts_M → Prop) (M : ts_M) : Prop :=
  (∀ x1 : Int, x1 = 0 → (∀ x2 : Int, x2 = 0 → ∃ n, ts_lp4 (wX12_costFirst_L5 Q) n p1 p2 x1 x2 M))
set_option maxRecDepth 100000 in
set_option maxHeartbeats 4000000 in
theorem mX12_costFirst {l : Launch} {g : ts_W} (hl : l.stackTraces = false) {p1 : Int} {p2 : Int} {Q : Int → ts_M → Prop} {M : ts_M} : wX12_costFirst p1 p2 Q M → ts_Con l g yX12_costFirst cX12_costFirst 5 (some .int) 2 0 0 [.ref (ts_ad g 164), ts_v p1, ts_v p2] M (ts_Ri Q) := by
  intro h0
  refine ts_Con.of hl (by decide) (Nat.le_of_ble_eq_true rfl) ?_
  intro p e s m args below meth c C
  have H44 : ∀ (k5 : Int → Int → Int → Int → ts_M → Prop) (hk5 : ∀ (y1 : Int) (y2 : Int) (y3 : Int) (y4 : Int) (M : ts_M), k5 y1 y2 y3 y4 M → ts_V p l e (ts_rm 2 0 0) s m args below meth c g 5 0 0 (MQ below (ts_Q g (ts_Ri Q)) args s 0 0 (ts_A g)) 5 [(0, .ref (ts_ad g 164)), (1, ts_v y1), (2, ts_v y2), (3, ts_v y3), (4, ts_v y4)] [] M) (y1 : Int) (y2 : Int) (y4 : Int) (z0 : Int) (z1 : Int) (M : ts_M), wX12_costFirst_B44  k5 Q y1 y2 y4 z0 z1 M → ts_V p l e (ts_rm 2 0 0) s m args below meth c g 5 0 0 (MQ below (ts_Q g (ts_Ri Q)) args s 0 0 (ts_A g)) 44 [(0, .ref (ts_ad g 164)), (1, ts_v y1), (2, ts_v y2), (4, ts_v y4)] [ts_v z0, ts_v z1] M := by
    intro k5 hk5 y1 y2 y4 z0 z1 M
    unfold wX12_costFirst_B44
    refine ts_iadd C dX12_costFirst_44 ?_
    refine ts_istore_n C dX12_costFirst_45 rfl (by decide) (lv' := fun x3 => [(3, ts_v x3), (0, .ref (ts_ad g 164)), (1, ts_v y1), (2, ts_v y2), (4, ts_v y4)]) (fun _ => rfl) (fun x3 => ?_)
    refine ts_iinc C dX12_costFirst_46 4 rfl (by decide) (lv' := fun x4 => [(4, ts_v x4), (3, ts_v x3), (0, .ref (ts_ad g 164)), (1, ts_v y1), (2, ts_v y2)]) (fun _ => rfl) (fun x4 => ?_)
    refine ts_goto C 5 dX12_costFirst_49 rfl ?_
    exact ts_sub [2, 3, 4, 1, 0] rfl (hk5 _ _ _ _ _)
  have H43 : ∀ (k5 : Int → Int → Int → Int → ts_M → Prop) (hk5 : ∀ (y1 : Int) (y2 : Int) (y3 : Int) (y4 : Int) (M : ts_M), k5 y1 y2 y3 y4 M → ts_V p l e (ts_rm 2 0 0) s m args below meth c g 5 0 0 (MQ below (ts_Q g (ts_Ri Q)) args s 0 0 (ts_A g)) 5 [(0, .ref (ts_ad g 164)), (1, ts_v y1), (2, ts_v y2), (3, ts_v y3), (4, ts_v y4)] [] M) (y1 : Int) (y2 : Int) (y4 : Int) (z0 : Int) (M : ts_M), wX12_costFirst_B43  k5 Q y1 y2 y4 z0 M → ts_V p l e (ts_rm 2 0 0) s m args below meth c g 5 0 0 (MQ below (ts_Q g (ts_Ri Q)) args s 0 0 (ts_A g)) 43 [(0, .ref (ts_ad g 164)), (1, ts_v y1), (2, ts_v y2), (4, ts_v y4)] [ts_v z0] M := by
    intro k5 hk5 y1 y2 y4 z0 M
    unfold wX12_costFirst_B43
    refine ts_iconst C dX12_costFirst_43 0 rfl ?_
    exact ts_sub [0, 1, 2, 3] rfl (H44 k5 hk5 _ _ _ _ _ _)
  have H5 : ∀ (n : Nat) (y1 : Int) (y2 : Int) (y3 : Int) (y4 : Int) (M : ts_M), ts_lp4 (wX12_costFirst_L5   Q) n y1 y2 y3 y4 M → ts_V p l e (ts_rm 2 0 0) s m args below meth c g 5 0 0 (MQ below (ts_Q g (ts_Ri Q)) args s 0 0 (ts_A g)) 5 [(0, .ref (ts_ad g 164)), (1, ts_v y1), (2, ts_v y2), (3, ts_v y3), (4, ts_v y4)] [] M := by
    refine ts_lpr4 (V := fun (y1 : Int) (y2 : Int) (y3 : Int) (y4 : Int) (M : ts_M) => ts_V p l e (ts_rm 2 0 0) s m args below meth c g 5 0 0 (MQ below (ts_Q g (ts_Ri Q)) args s 0 0 (ts_A g)) 5 [(0, .ref (ts_ad g 164)), (1, ts_v y1), (2, ts_v y2), (3, ts_v y3), (4, ts_v y4)] [] M) ?_
    intro k5 hk5 y1 y2 y3 y4 M
    unfold wX12_costFirst_L5
    refine ts_iload C dX12_costFirst_5 4 rfl ?_
    refine ts_aload_n C dX12_costFirst_7 rfl 0 rfl ?_
    refine tgX12_1 C q_1959 dX12_costFirst_8 ?_
    refine ts_iconst C dX12_costFirst_11 1 rfl ?_
    refine ts_ialdc C (by decide) shG165 tw_1 (by decide) dX12_costFirst_12 ?_
    refine ts_cmp_ge C rfl rfl 52 dX12_costFirst_13 rfl ?_ ?_
    · refine ts_iload_n C dX12_costFirst_52 rfl 3 rfl ?_
      exact ts_ireti C (Nat.zero_le _) (Nat.zero_le _) dX12_costFirst_53
    · refine ts_iload_n C dX12_costFirst_16 rfl 3 rfl ?_
      refine ts_iload C dX12_costFirst_17 4 rfl ?_
      refine ts_iload_n C dX12_costFirst_19 rfl 1 rfl ?_
      refine ts_cmp_eq C rfl rfl 43 dX12_costFirst_20 rfl ?_ ?_
      · exact ts_sub [0, 1, 2, 4] rfl (H43 k5 hk5 _ _ _ _ _)
      · refine ts_iload_n C dX12_costFirst_23 rfl 2 rfl ?_
        refine ts_iload C dX12_costFirst_24 4 rfl ?_
        refine ts_ishr C dX12_costFirst_26 ?_
        refine ts_iconst C dX12_costFirst_27 1 rfl ?_
        refine ts_iand C dX12_costFirst_28 ?_
        refine ts_iconst C dX12_costFirst_29 1 rfl ?_
        refine ts_cmp_ne C rfl tw_1 43 dX12_costFirst_30 rfl ?_ ?_
        · exact ts_sub [0, 1, 2, 4] rfl (H43 k5 hk5 _ _ _ _ _)
        · refine ts_aload_n C dX12_costFirst_33 rfl 0 rfl ?_
          refine ts_iload C dX12_costFirst_34 4 rfl ?_
          refine ts_iload_n C dX12_costFirst_36 rfl 1 rfl ?_
          refine ts_callVi C [ts_v y4, ts_v y1] (mX12_supports hl) kX12_supports q_2381 (by decide) shX12 rfl rfl rfl (Nat.le_of_ble_eq_true rfl) ⟨Nat.le_of_ble_eq_true rfl, Nat.le_of_ble_eq_true rfl⟩ ⟨Nat.le_of_ble_eq_true rfl, Nat.le_of_ble_eq_true rfl⟩ dX12_costFirst_37 (fun r6 M5 => ?_)
          refine ts_goto C 44 dX12_costFirst_40 rfl ?_
          exact ts_sub [0, 1, 2, 4] rfl (H44 k5 hk5 _ _ _ _ _ _)
  revert h0
  unfold wX12_costFirst
  have hl0 : lv_args 0 [.ref (ts_ad g 164), ts_v p1, ts_v p2] = [(0, .ref (ts_ad g 164)), (1, ts_v p1), (2, ts_v p2)] := rfl
  rw [hl0]
  refine ts_iconst C dX12_costFirst_0 0 rfl ?_
  refine ts_istore_n C dX12_costFirst_1 rfl (by decide) (lv' := fun x1 => [(3, ts_v x1), (0, .ref (ts_ad g 164)), (1, ts_v p1), (2, ts_v p2)]) (fun _ => rfl) (fun x1 => ?_)
  refine ts_iconst C dX12_costFirst_2 0 rfl ?_
  refine ts_istore C dX12_costFirst_3 (by decide) (lv' := fun x2 => [(4, ts_v x2), (3, ts_v x1), (0, .ref (ts_ad g 164)), (1, ts_v p1), (2, ts_v p2)]) (fun _ => rfl) (fun x2 => ?_)
  rintro ⟨n, hn⟩
  exact ts_sub [2, 3, 4, 1, 0] rfl (H5 n _ _ _ _ _) hn
def wX12_ranks_B147  (k9 : Int → ts_M → Prop) (k30 : Int → Int → ts_M → Prop) (Q : ts_M → Prop)  (y1 : Int) (y2 : Int) (M : ts_M) : Prop :=
  (∀ x10 : Int, x10 = y2 + 1 → k30 y1 x10 M)
def wX12_ranks_B135  (k9 : Int → ts_M → Prop) (k30 : Int → Int → ts_M → Prop) (Q : ts_M → Prop)  (y1 : Int) (y2 : Int) (y3 : Int) (y4 : Int) (M : ts_M) : Prop :=
  ((ts_w y4 = 0 → wX12_ranks_B147 k9 k30 Q y1 y2 M) ∧ (¬ (ts_w y4 = 0) → ((0 ≤ ts_w y1 ∧ ts_w y1 < ((64 : Nat) : Int)) ∧ ∀ M11, M11 = ts_si M 170 (ts_w y1) y3 → wX12_ranks_B147 k9 k30 Q y1 y2 M11)))
def wX12_ranks_B121  (k9 : Int → ts_M → Prop) (k30 : Int → Int → ts_M → Prop) (Q : ts_M → Prop)  (y1 : Int) (y2 : Int) (y3 : Int) (z0 : Int) (M : ts_M) : Prop :=
  (∀ x9 : Int, x9 = z0 → ((ts_w x9 = 0 → wX12_ranks_B135 k9 k30 Q y1 y2 y3 x9 M) ∧ (¬ (ts_w x9 = 0) → ((0 ≤ ts_w y1 ∧ ts_w y1 < ((64 : Nat) : Int)) ∧ ∀ M12, M12 = ts_si M 171 (ts_w y1) y2 → wX12_ranks_B135 k9 k30 Q y1 y2 y3 x9 M12))))
def wX12_ranks_B116  (k9 : Int → ts_M → Prop) (k30 : Int → Int → ts_M → Prop) (Q : ts_M → Prop)  (y1 : Int) (y2 : Int) (y3 : Int) (M : ts_M) : Prop :=
  wX12_ranks_B121 k9 k30 Q y1 y2 y3 1 M
def wX12_ranks_B120  (k9 : Int → ts_M → Prop) (k30 : Int → Int → ts_M → Prop) (Q : ts_M → Prop)  (y1 : Int) (y2 : Int) (y3 : Int) (M : ts_M) : Prop :=
  wX12_ranks_B121 k9 k30 Q y1 y2 y3 0 M
def wX12_ranks_L30  (k9 : Int → ts_M → Prop) (Q : ts_M → Prop) (k30 : Int → Int → ts_M → Prop) (y1 : Int) (y2 : Int) (M : ts_M) : Prop :=
  ((ts_w (M.1 165 1) ≤ ts_w y2 → (∀ x5 : Int, x5 = y1 + 1 → k9 x5 M)) ∧ (¬ (ts_w (M.1 165 1) ≤ ts_w y2) → ((¬ (ts_w (ts_and (ts_shr y1 y2) 1) = 0) → (wX12_costFirst y2 y1 (fun r7 M6 => ((0 ≤ ts_w (y1 - (ts_shl 1 y2)) ∧ ts_w (y1 - (ts_shl 1 y2)) < ((64 : Nat) : Int)) ∧ (∀ x8 : Int, x8 = r7 + (M6.1 170 (ts_w (y1 - (ts_shl 1 y2)))) → ((0 ≤ ts_w y1 ∧ ts_w y1 < ((64 : Nat) : Int)) ∧ ((ts_w (M6.1 170 (ts_w y1)) < 0 → wX12_ranks_B116 k9 k30 Q y1 y2 x8 M6) ∧ (¬ (ts_w (M6.1 170 (ts_w y1)) < 0) → ((0 ≤ ts_w y1 ∧ ts_w y1 < ((64 : Nat) : Int)) ∧ ((ts_w x8 < ts_w (M6.1 170 (ts_w y1)) → wX12_ranks_B116 k9 k30 Q y1 y2 x8 M6) ∧ (¬ (ts_w x8 < ts_w (M6.1 170 (ts_w y1))) → ((0 ≤ ts_w y1 ∧ ts_w y1 < ((64 : Nat) : Int)) ∧ ((¬ (ts_w x8 = ts_w (M6.1 170 (ts_w y1))) → wX12_ranks_B120 k9 k30 Q y1 y2 x8 M6) ∧ (ts_w x8 = ts_w (M6.1 170 (ts_w y1)) → (wX12_idAt y2 (fun r14 M13 => ((0 ≤ ts_w y1 ∧ ts_w y1 < ((64 : Nat) : Int)) ∧ (wX12_idAt (M13.1 171 (ts_w y1)) (fun r16 M15 => ((ts_w r16 ≤ ts_w r14 → wX12_ranks_B120 k9 k30 Q y1 y2 x8 M15) ∧ (¬ (ts_w r16 ≤ ts_w r14) → wX12_ranks_B116 k9 k30 Q y1 y2 x8 M15))) M13))) M6))))))))))))) M)) ∧ (ts_w (ts_and (ts_shr y1 y2) 1) = 0 → wX12_ranks_B147 k9 k30 Q y1 y2 M))))
def wX12_ranks_L9   (Q : ts_M → Prop) (k9 : Int → ts_M → Prop) (y1 : Int) (M : ts_M) : Prop :=
  ((ts_w (ts_shl 1 (M.1 165 1)) ≤ ts_w y1 → Q M) ∧ (¬ (ts_w (ts_shl 1 (M.1 165 1)) ≤ ts_w y1) → ((0 ≤ ts_w y1 ∧ ts_w y1 < ((64 : Nat) : Int)) ∧ ∀ M3, M3 = ts_si M 170 (ts_w y1) (-1) → (∀ x4 : Int, x4 = 0 → ∃ n, ts_lp2 (wX12_ranks_L30 k9 Q) n y1 x4 M3))))
def wX12_ranks (Q : ts_M → Prop) (M : ts_M) : Prop :=
  (∀ M1, M1 = ts_si M 170 0 0 → (∀ x2 : Int, x2 = 1 → ∃ n, ts_lp1 (wX12_ranks_L9 Q) n x2 M1))
set_option maxRecDepth 100000 in
set_option maxHeartbeats 4000000 in
theorem mX12_ranks {l : Launch} {g : ts_W} (hl : l.stackTraces = false) {Q : ts_M → Prop} {M : ts_M} : wX12_ranks Q M → ts_Con l g yX12_ranks cX12_ranks 5 none 3 0 0 [.ref (ts_ad g 164)] M (ts_Rv Q) := by
  intro h0
  refine ts_Con.of hl (by decide) (Nat.le_of_ble_eq_true rfl) ?_
  intro p e s m args below meth c C
  have H147 : ∀ (k9 : Int → ts_M → Prop) (hk9 : ∀ (y1 : Int) (M : ts_M), k9 y1 M → ts_V p l e (ts_rm 3 0 0) s m args below meth c g 5 0 0 (MQ below (ts_Q g (ts_Rv Q)) args s 0 0 (ts_A g)) 9 [(0, .ref (ts_ad g 164)), (1, ts_v y1)] [] M) (k30 : Int → Int → ts_M → Prop) (hk30 : ∀ (y1 : Int) (y2 : Int) (M : ts_M), k30 y1 y2 M → ts_V p l e (ts_rm 3 0 0) s m args below meth c g 5 0 0 (MQ below (ts_Q g (ts_Rv Q)) args s 0 0 (ts_A g)) 30 [(0, .ref (ts_ad g 164)), (1, ts_v y1), (2, ts_v y2)] [] M) (y1 : Int) (y2 : Int) (M : ts_M), wX12_ranks_B147  k9 k30 Q y1 y2 M → ts_V p l e (ts_rm 3 0 0) s m args below meth c g 5 0 0 (MQ below (ts_Q g (ts_Rv Q)) args s 0 0 (ts_A g)) 147 [(0, .ref (ts_ad g 164)), (1, ts_v y1), (2, ts_v y2)] [] M := by
    intro k9 hk9 k30 hk30 y1 y2 M
    unfold wX12_ranks_B147
    refine ts_iinc C dX12_ranks_147 2 rfl (by decide) (lv' := fun x10 => [(2, ts_v x10), (0, .ref (ts_ad g 164)), (1, ts_v y1)]) (fun _ => rfl) (fun x10 => ?_)
    refine ts_goto C 30 dX12_ranks_150 rfl ?_
    exact ts_sub [1, 2, 0] rfl (hk30 _ _ _)
  have H135 : ∀ (k9 : Int → ts_M → Prop) (hk9 : ∀ (y1 : Int) (M : ts_M), k9 y1 M → ts_V p l e (ts_rm 3 0 0) s m args below meth c g 5 0 0 (MQ below (ts_Q g (ts_Rv Q)) args s 0 0 (ts_A g)) 9 [(0, .ref (ts_ad g 164)), (1, ts_v y1)] [] M) (k30 : Int → Int → ts_M → Prop) (hk30 : ∀ (y1 : Int) (y2 : Int) (M : ts_M), k30 y1 y2 M → ts_V p l e (ts_rm 3 0 0) s m args below meth c g 5 0 0 (MQ below (ts_Q g (ts_Rv Q)) args s 0 0 (ts_A g)) 30 [(0, .ref (ts_ad g 164)), (1, ts_v y1), (2, ts_v y2)] [] M) (y1 : Int) (y2 : Int) (y3 : Int) (y4 : Int) (M : ts_M), wX12_ranks_B135  k9 k30 Q y1 y2 y3 y4 M → ts_V p l e (ts_rm 3 0 0) s m args below meth c g 5 0 0 (MQ below (ts_Q g (ts_Rv Q)) args s 0 0 (ts_A g)) 135 [(0, .ref (ts_ad g 164)), (1, ts_v y1), (2, ts_v y2), (3, ts_v y3), (4, ts_v y4)] [] M := by
    intro k9 hk9 k30 hk30 y1 y2 y3 y4 M
    unfold wX12_ranks_B135
    refine ts_iload C dX12_ranks_135 4 rfl ?_
    refine ts_cm0_eq C rfl 147 dX12_ranks_137 rfl ?_ ?_
    · exact ts_sub [0, 1, 2] rfl (H147 k9 hk9 k30 hk30 _ _ _)
    · refine ts_aload_n C dX12_ranks_140 rfl 0 rfl ?_
      refine tgX12_9 C q_1967 dX12_ranks_141 ?_
      refine ts_iload_n C dX12_ranks_144 rfl 1 rfl ?_
      refine ts_iload_n C dX12_ranks_145 rfl 3 rfl ?_
      refine ts_iast C (by decide) shG170 dX12_ranks_146 (fun M11 => ?_)
      exact ts_sub [0, 1, 2] rfl (H147 k9 hk9 k30 hk30 _ _ _)
  have H121 : ∀ (k9 : Int → ts_M → Prop) (hk9 : ∀ (y1 : Int) (M : ts_M), k9 y1 M → ts_V p l e (ts_rm 3 0 0) s m args below meth c g 5 0 0 (MQ below (ts_Q g (ts_Rv Q)) args s 0 0 (ts_A g)) 9 [(0, .ref (ts_ad g 164)), (1, ts_v y1)] [] M) (k30 : Int → Int → ts_M → Prop) (hk30 : ∀ (y1 : Int) (y2 : Int) (M : ts_M), k30 y1 y2 M → ts_V p l e (ts_rm 3 0 0) s m args below meth c g 5 0 0 (MQ below (ts_Q g (ts_Rv Q)) args s 0 0 (ts_A g)) 30 [(0, .ref (ts_ad g 164)), (1, ts_v y1), (2, ts_v y2)] [] M) (y1 : Int) (y2 : Int) (y3 : Int) (z0 : Int) (M : ts_M), wX12_ranks_B121  k9 k30 Q y1 y2 y3 z0 M → ts_V p l e (ts_rm 3 0 0) s m args below meth c g 5 0 0 (MQ below (ts_Q g (ts_Rv Q)) args s 0 0 (ts_A g)) 121 [(0, .ref (ts_ad g 164)), (1, ts_v y1), (2, ts_v y2), (3, ts_v y3)] [ts_v z0] M := by
    intro k9 hk9 k30 hk30 y1 y2 y3 z0 M
    unfold wX12_ranks_B121
    refine ts_istore C dX12_ranks_121 (by decide) (lv' := fun x9 => [(4, ts_v x9), (0, .ref (ts_ad g 164)), (1, ts_v y1), (2, ts_v y2), (3, ts_v y3)]) (fun _ => rfl) (fun x9 => ?_)
    refine ts_iload C dX12_ranks_123 0 rfl ?_
    refine ts_cm0_eq C rfl 135 dX12_ranks_125 rfl ?_ ?_
    · exact ts_sub [1, 2, 3, 4, 0] rfl (H135 k9 hk9 k30 hk30 _ _ _ _ _)
    · refine ts_aload_n C dX12_ranks_128 rfl 1 rfl ?_
      refine tgX12_10 C q_1968 dX12_ranks_129 ?_
      refine ts_iload_n C dX12_ranks_132 rfl 2 rfl ?_
      refine ts_iload_n C dX12_ranks_133 rfl 3 rfl ?_
      refine ts_iast C (by decide) shG171 dX12_ranks_134 (fun M12 => ?_)
      exact ts_sub [1, 2, 3, 4, 0] rfl (H135 k9 hk9 k30 hk30 _ _ _ _ _)
  have H116 : ∀ (k9 : Int → ts_M → Prop) (hk9 : ∀ (y1 : Int) (M : ts_M), k9 y1 M → ts_V p l e (ts_rm 3 0 0) s m args below meth c g 5 0 0 (MQ below (ts_Q g (ts_Rv Q)) args s 0 0 (ts_A g)) 9 [(0, .ref (ts_ad g 164)), (1, ts_v y1)] [] M) (k30 : Int → Int → ts_M → Prop) (hk30 : ∀ (y1 : Int) (y2 : Int) (M : ts_M), k30 y1 y2 M → ts_V p l e (ts_rm 3 0 0) s m args below meth c g 5 0 0 (MQ below (ts_Q g (ts_Rv Q)) args s 0 0 (ts_A g)) 30 [(0, .ref (ts_ad g 164)), (1, ts_v y1), (2, ts_v y2)] [] M) (y1 : Int) (y2 : Int) (y3 : Int) (M : ts_M), wX12_ranks_B116  k9 k30 Q y1 y2 y3 M → ts_V p l e (ts_rm 3 0 0) s m args below meth c g 5 0 0 (MQ below (ts_Q g (ts_Rv Q)) args s 0 0 (ts_A g)) 116 [(0, .ref (ts_ad g 164)), (1, ts_v y1), (2, ts_v y2), (3, ts_v y3)] [] M := by
    intro k9 hk9 k30 hk30 y1 y2 y3 M
    unfold wX12_ranks_B116
    refine ts_iconst C dX12_ranks_116 1 rfl ?_
    refine ts_goto C 121 dX12_ranks_117 rfl ?_
    exact ts_sub [0, 1, 2, 3] rfl (H121 k9 hk9 k30 hk30 _ _ _ _ _)
  have H120 : ∀ (k9 : Int → ts_M → Prop) (hk9 : ∀ (y1 : Int) (M : ts_M), k9 y1 M → ts_V p l e (ts_rm 3 0 0) s m args below meth c g 5 0 0 (MQ below (ts_Q g (ts_Rv Q)) args s 0 0 (ts_A g)) 9 [(0, .ref (ts_ad g 164)), (1, ts_v y1)] [] M) (k30 : Int → Int → ts_M → Prop) (hk30 : ∀ (y1 : Int) (y2 : Int) (M : ts_M), k30 y1 y2 M → ts_V p l e (ts_rm 3 0 0) s m args below meth c g 5 0 0 (MQ below (ts_Q g (ts_Rv Q)) args s 0 0 (ts_A g)) 30 [(0, .ref (ts_ad g 164)), (1, ts_v y1), (2, ts_v y2)] [] M) (y1 : Int) (y2 : Int) (y3 : Int) (M : ts_M), wX12_ranks_B120  k9 k30 Q y1 y2 y3 M → ts_V p l e (ts_rm 3 0 0) s m args below meth c g 5 0 0 (MQ below (ts_Q g (ts_Rv Q)) args s 0 0 (ts_A g)) 120 [(0, .ref (ts_ad g 164)), (1, ts_v y1), (2, ts_v y2), (3, ts_v y3)] [] M := by
    intro k9 hk9 k30 hk30 y1 y2 y3 M
    unfold wX12_ranks_B120
    refine ts_iconst C dX12_ranks_120 0 rfl ?_
    exact ts_sub [0, 1, 2, 3] rfl (H121 k9 hk9 k30 hk30 _ _ _ _ _)
  have H30 : ∀ (k9 : Int → ts_M → Prop) (hk9 : ∀ (y1 : Int) (M : ts_M), k9 y1 M → ts_V p l e (ts_rm 3 0 0) s m args below meth c g 5 0 0 (MQ below (ts_Q g (ts_Rv Q)) args s 0 0 (ts_A g)) 9 [(0, .ref (ts_ad g 164)), (1, ts_v y1)] [] M) (n : Nat) (y1 : Int) (y2 : Int) (M : ts_M), ts_lp2 (wX12_ranks_L30  k9 Q) n y1 y2 M → ts_V p l e (ts_rm 3 0 0) s m args below meth c g 5 0 0 (MQ below (ts_Q g (ts_Rv Q)) args s 0 0 (ts_A g)) 30 [(0, .ref (ts_ad g 164)), (1, ts_v y1), (2, ts_v y2)] [] M := by
    intro k9 hk9
    refine ts_lpr2 (V := fun (y1 : Int) (y2 : Int) (M : ts_M) => ts_V p l e (ts_rm 3 0 0) s m args below meth c g 5 0 0 (MQ below (ts_Q g (ts_Rv Q)) args s 0 0 (ts_A g)) 30 [(0, .ref (ts_ad g 164)), (1, ts_v y1), (2, ts_v y2)] [] M) ?_
    intro k30 hk30 y1 y2 M
    unfold wX12_ranks_L30
    refine ts_iload_n C dX12_ranks_30 rfl 2 rfl ?_
    refine ts_aload_n C dX12_ranks_31 rfl 0 rfl ?_
    refine tgX12_1 C q_1959 dX12_ranks_32 ?_
    refine ts_iconst C dX12_ranks_35 1 rfl ?_
    refine ts_ialdc C (by decide) shG165 tw_1 (by decide) dX12_ranks_36 ?_
    refine ts_cmp_ge C rfl rfl 153 dX12_ranks_37 rfl ?_ ?_
    · refine ts_iinc C dX12_ranks_153 1 rfl (by decide) (lv' := fun x5 => [(1, ts_v x5), (0, .ref (ts_ad g 164)), (2, ts_v y2)]) (fun _ => rfl) (fun x5 => ?_)
      refine ts_goto C 9 dX12_ranks_156 rfl ?_
      exact ts_sub [1, 0] rfl (hk9 _ _)
    · refine ts_iload_n C dX12_ranks_40 rfl 1 rfl ?_
      refine ts_iload_n C dX12_ranks_41 rfl 2 rfl ?_
      refine ts_ishr C dX12_ranks_42 ?_
      refine ts_iconst C dX12_ranks_43 1 rfl ?_
      refine ts_iand C dX12_ranks_44 ?_
      refine ts_cm0_ne C rfl 51 dX12_ranks_45 rfl ?_ ?_
      · refine ts_aload_n C dX12_ranks_51 rfl 0 rfl ?_
        refine ts_iload_n C dX12_ranks_52 rfl 2 rfl ?_
        refine ts_iload_n C dX12_ranks_53 rfl 1 rfl ?_
        refine ts_callVi C [ts_v y2, ts_v y1] (mX12_costFirst hl) kX12_costFirst q_2393 (by decide) shX12 rfl rfl rfl (Nat.le_of_ble_eq_true rfl) ⟨Nat.le_of_ble_eq_true rfl, Nat.le_of_ble_eq_true rfl⟩ ⟨Nat.le_of_ble_eq_true rfl, Nat.le_of_ble_eq_true rfl⟩ dX12_ranks_54 (fun r7 M6 => ?_)
        refine ts_aload_n C dX12_ranks_57 rfl 0 rfl ?_
        refine tgX12_9 C q_1967 dX12_ranks_58 ?_
        refine ts_iload_n C dX12_ranks_61 rfl 1 rfl ?_
        refine ts_iconst C dX12_ranks_62 1 rfl ?_
        refine ts_iload_n C dX12_ranks_63 rfl 2 rfl ?_
        refine ts_ishl C dX12_ranks_64 ?_
        refine ts_isub C dX12_ranks_65 ?_
        refine ts_iald C (by decide) shG170 dX12_ranks_66 ?_
        refine ts_iadd C dX12_ranks_67 ?_
        refine ts_istore_n C dX12_ranks_68 rfl (by decide) (lv' := fun x8 => [(3, ts_v x8), (0, .ref (ts_ad g 164)), (1, ts_v y1), (2, ts_v y2)]) (fun _ => rfl) (fun x8 => ?_)
        refine ts_aload_n C dX12_ranks_69 rfl 1 rfl ?_
        refine tgX12_9 C q_1967 dX12_ranks_70 ?_
        refine ts_iload_n C dX12_ranks_73 rfl 2 rfl ?_
        refine ts_iald C (by decide) shG170 dX12_ranks_74 ?_
        refine ts_cm0_lt C rfl 116 dX12_ranks_75 rfl ?_ ?_
        · exact ts_sub [1, 2, 3, 0] rfl (H116 k9 hk9 k30 hk30 _ _ _ _)
        · refine ts_iload_n C dX12_ranks_78 rfl 0 rfl ?_
          refine ts_aload_n C dX12_ranks_79 rfl 1 rfl ?_
          refine tgX12_9 C q_1967 dX12_ranks_80 ?_
          refine ts_iload_n C dX12_ranks_83 rfl 2 rfl ?_
          refine ts_iald C (by decide) shG170 dX12_ranks_84 ?_
          refine ts_cmp_lt C rfl rfl 116 dX12_ranks_85 rfl ?_ ?_
          · exact ts_sub [1, 2, 3, 0] rfl (H116 k9 hk9 k30 hk30 _ _ _ _)
          · refine ts_iload_n C dX12_ranks_88 rfl 0 rfl ?_
            refine ts_aload_n C dX12_ranks_89 rfl 1 rfl ?_
            refine tgX12_9 C q_1967 dX12_ranks_90 ?_
            refine ts_iload_n C dX12_ranks_93 rfl 2 rfl ?_
            refine ts_iald C (by decide) shG170 dX12_ranks_94 ?_
            refine ts_cmp_ne C rfl rfl 120 dX12_ranks_95 rfl ?_ ?_
            · exact ts_sub [1, 2, 3, 0] rfl (H120 k9 hk9 k30 hk30 _ _ _ _)
            · refine ts_aload_n C dX12_ranks_98 rfl 1 rfl ?_
              refine ts_iload_n C dX12_ranks_99 rfl 3 rfl ?_
              refine ts_callVi C [ts_v y2] (mX12_idAt hl) kX12_idAt q_2089 (by decide) shX12 rfl rfl rfl (Nat.le_of_ble_eq_true rfl) ⟨Nat.le_of_ble_eq_true rfl, Nat.le_of_ble_eq_true rfl⟩ ⟨Nat.le_of_ble_eq_true rfl, Nat.le_of_ble_eq_true rfl⟩ dX12_ranks_100 (fun r14 M13 => ?_)
              refine ts_aload_n C dX12_ranks_103 rfl 1 rfl ?_
              refine ts_aload_n C dX12_ranks_104 rfl 1 rfl ?_
              refine tgX12_10 C q_1968 dX12_ranks_105 ?_
              refine ts_iload_n C dX12_ranks_108 rfl 2 rfl ?_
              refine ts_iald C (by decide) shG171 dX12_ranks_109 ?_
              refine ts_callVi C [ts_v (M13.1 171 (ts_w y1))] (mX12_idAt hl) kX12_idAt q_2089 (by decide) shX12 rfl rfl rfl (Nat.le_of_ble_eq_true rfl) ⟨Nat.le_of_ble_eq_true rfl, Nat.le_of_ble_eq_true rfl⟩ ⟨Nat.le_of_ble_eq_true rfl, Nat.le_of_ble_eq_true rfl⟩ dX12_ranks_110 (fun r16 M15 => ?_)
              refine ts_cmp_ge C rfl rfl 120 dX12_ranks_113 rfl ?_ ?_
              · exact ts_sub [1, 2, 3, 0] rfl (H120 k9 hk9 k30 hk30 _ _ _ _)
              · exact ts_sub [1, 2, 3, 0] rfl (H116 k9 hk9 k30 hk30 _ _ _ _)
      · refine ts_goto C 147 dX12_ranks_48 rfl ?_
        exact ts_sub [0, 1, 2] rfl (H147 k9 hk9 k30 hk30 _ _ _)
  have H9 : ∀ (n : Nat) (y1 : Int) (M : ts_M), ts_lp1 (wX12_ranks_L9   Q) n y1 M → ts_V p l e (ts_rm 3 0 0) s m args below meth c g 5 0 0 (MQ below (ts_Q g (ts_Rv Q)) args s 0 0 (ts_A g)) 9 [(0, .ref (ts_ad g 164)), (1, ts_v y1)] [] M := by
    refine ts_lpr1 (V := fun (y1 : Int) (M : ts_M) => ts_V p l e (ts_rm 3 0 0) s m args below meth c g 5 0 0 (MQ below (ts_Q g (ts_Rv Q)) args s 0 0 (ts_A g)) 9 [(0, .ref (ts_ad g 164)), (1, ts_v y1)] [] M) ?_
    intro k9 hk9 y1 M
    unfold wX12_ranks_L9
    refine ts_iload_n C dX12_ranks_9 rfl 1 rfl ?_
    refine ts_iconst C dX12_ranks_10 1 rfl ?_
    refine ts_aload_n C dX12_ranks_11 rfl 0 rfl ?_
    refine tgX12_1 C q_1959 dX12_ranks_12 ?_
    refine ts_iconst C dX12_ranks_15 1 rfl ?_
    refine ts_ialdc C (by decide) shG165 tw_1 (by decide) dX12_ranks_16 ?_
    refine ts_ishl C dX12_ranks_17 ?_
    refine ts_cmp_ge C rfl rfl 159 dX12_ranks_18 rfl ?_ ?_
    · exact ts_vreti C (Nat.zero_le _) (Nat.zero_le _) dX12_ranks_159
    · refine ts_aload_n C dX12_ranks_21 rfl 0 rfl ?_
      refine tgX12_9 C q_1967 dX12_ranks_22 ?_
      refine ts_iload_n C dX12_ranks_25 rfl 1 rfl ?_
      refine ts_iconst C dX12_ranks_26 (-1) rfl ?_
      refine ts_iast C (by decide) shG170 dX12_ranks_27 (fun M3 => ?_)
      refine ts_iconst C dX12_ranks_28 0 rfl ?_
      refine ts_istore_n C dX12_ranks_29 rfl (by decide) (lv' := fun x4 => [(2, ts_v x4), (0, .ref (ts_ad g 164)), (1, ts_v y1)]) (fun _ => rfl) (fun x4 => ?_)
      rintro ⟨n, hn⟩
      exact ts_sub [1, 2, 0] rfl (H30 k9 hk9 n _ _ _) hn
  revert h0
  unfold wX12_ranks
  have hl0 : lv_args 0 [.ref (ts_ad g 164)] = [(0, .ref (ts_ad g 164))] := rfl
  rw [hl0]
  refine ts_aload_n C dX12_ranks_0 rfl 0 rfl ?_
  refine tgX12_9 C q_1967 dX12_ranks_1 ?_
  refine ts_iconst C dX12_ranks_4 0 rfl ?_
  refine ts_iconst C dX12_ranks_5 0 rfl ?_
  refine ts_iastc C (by decide) shG170 tw_0 (by decide) dX12_ranks_6 (fun M1 => ?_)
  refine ts_iconst C dX12_ranks_7 1 rfl ?_
  refine ts_istore_n C dX12_ranks_8 rfl (by decide) (lv' := fun x2 => [(1, ts_v x2), (0, .ref (ts_ad g 164))]) (fun _ => rfl) (fun x2 => ?_)
  rintro ⟨n, hn⟩
  exact ts_sub [1, 0] rfl (H9 n _ _) hn
def wX12_fewestDisagreements (Q : Int → ts_M → Prop) (M : ts_M) : Prop :=
  (∀ M1, M1 = ts_si M 164 0 0 → (wX12_ranks  (fun M2 => ((0 ≤ ts_w ((ts_shl 1 (M2.1 165 1)) - 1) ∧ ts_w ((ts_shl 1 (M2.1 165 1)) - 1) < ((64 : Nat) : Int)) ∧ Q (M2.1 170 (ts_w ((ts_shl 1 (M2.1 165 1)) - 1))) M2)) M1))
set_option maxRecDepth 100000 in
set_option maxHeartbeats 4000000 in
theorem mX12_fewestDisagreements {l : Launch} {g : ts_W} (hl : l.stackTraces = false) {Q : Int → ts_M → Prop} {M : ts_M} : wX12_fewestDisagreements Q M → ts_Con l g yX12_fewestDisagreements cX12_fewestDisagreements 1 (some .int) 4 0 0 [.ref (ts_ad g 164)] M (ts_Ri Q) := by
  intro h0
  refine ts_Con.of hl (by decide) (Nat.le_of_ble_eq_true rfl) ?_
  intro p e s m args below meth c C
  revert h0
  unfold wX12_fewestDisagreements
  have hl0 : lv_args 0 [.ref (ts_ad g 164)] = [(0, .ref (ts_ad g 164))] := rfl
  rw [hl0]
  refine ts_aload_n C dX12_fewestDisagreements_0 rfl 0 rfl ?_
  refine ts_iconst C dX12_fewestDisagreements_1 0 rfl ?_
  refine tpX12_0 C q_1958 dX12_fewestDisagreements_2 (fun M1 => ?_)
  refine ts_aload_n C dX12_fewestDisagreements_5 rfl 0 rfl ?_
  refine ts_callVv C [] (mX12_ranks hl) kX12_ranks q_2389 (by decide) shX12 rfl rfl rfl (Nat.le_of_ble_eq_true rfl) ⟨Nat.le_of_ble_eq_true rfl, Nat.le_of_ble_eq_true rfl⟩ ⟨Nat.le_of_ble_eq_true rfl, Nat.le_of_ble_eq_true rfl⟩ dX12_fewestDisagreements_6 (fun M2 => ?_)
  refine ts_aload_n C dX12_fewestDisagreements_9 rfl 0 rfl ?_
  refine tgX12_9 C q_1967 dX12_fewestDisagreements_10 ?_
  refine ts_iconst C dX12_fewestDisagreements_13 1 rfl ?_
  refine ts_aload_n C dX12_fewestDisagreements_14 rfl 0 rfl ?_
  refine tgX12_1 C q_1959 dX12_fewestDisagreements_15 ?_
  refine ts_iconst C dX12_fewestDisagreements_18 1 rfl ?_
  refine ts_ialdc C (by decide) shG165 tw_1 (by decide) dX12_fewestDisagreements_19 ?_
  refine ts_ishl C dX12_fewestDisagreements_20 ?_
  refine ts_iconst C dX12_fewestDisagreements_21 1 rfl ?_
  refine ts_isub C dX12_fewestDisagreements_22 ?_
  refine ts_iald C (by decide) shG170 dX12_fewestDisagreements_23 ?_
  exact ts_ireti C (Nat.zero_le _) (Nat.zero_le _) dX12_fewestDisagreements_24
def wX12_fewestDisagreementsByOrders (Q : Int → ts_M → Prop) (M : ts_M) : Prop :=
  (wX12_fewestDisagreements  (fun r2 M1 => Q r2 M1) M)
set_option maxRecDepth 100000 in
set_option maxHeartbeats 4000000 in
theorem mX12_fewestDisagreementsByOrders {l : Launch} {g : ts_W} (hl : l.stackTraces = false) {Q : Int → ts_M → Prop} {M : ts_M} : wX12_fewestDisagreementsByOrders Q M → ts_Con l g yX12_fewestDisagreementsByOrders cX12_fewestDisagreementsByOrders 1 (some .int) 5 0 0 [.ref (ts_ad g 164)] M (ts_Ri Q) := by
  intro h0
  refine ts_Con.of hl (by decide) (Nat.le_of_ble_eq_true rfl) ?_
  intro p e s m args below meth c C
  revert h0
  unfold wX12_fewestDisagreementsByOrders
  have hl0 : lv_args 0 [.ref (ts_ad g 164)] = [(0, .ref (ts_ad g 164))] := rfl
  rw [hl0]
  refine ts_aload_n C dX12_fewestDisagreementsByOrders_0 rfl 0 rfl ?_
  refine ts_callVi C [] (mX12_fewestDisagreements hl) kX12_fewestDisagreements q_2401 (by decide) shX12 rfl rfl rfl (Nat.le_of_ble_eq_true rfl) ⟨Nat.le_of_ble_eq_true rfl, Nat.le_of_ble_eq_true rfl⟩ ⟨Nat.le_of_ble_eq_true rfl, Nat.le_of_ble_eq_true rfl⟩ dX12_fewestDisagreementsByOrders_1 (fun r2 M1 => ?_)
  exact ts_ireti C (Nat.zero_le _) (Nat.zero_le _) dX12_fewestDisagreementsByOrders_4
def wX12_bestOrder_L44   (Q : Int → ts_M → Prop) (k44 : Int → Int → Int → ts_M → Prop) (y1 : Int) (y2 : Int) (y3 : Int) (M : ts_M) : Prop :=
  ((ts_w y1 ≤ ts_w y3 → ((0 ≤ ts_w y2 ∧ ts_w y2 < ((64 : Nat) : Int)) ∧ (wX12_idAt (M.1 171 (ts_w y2)) (fun r8 M7 => Q r8 M7) M))) ∧ (¬ (ts_w y1 ≤ ts_w y3) → ((0 ≤ ts_w y2 ∧ ts_w y2 < ((64 : Nat) : Int)) ∧ (∀ x9 : Int, x9 = y2 - (ts_shl 1 (M.1 171 (ts_w y2))) → (∀ x10 : Int, x10 = y3 + 1 → k44 y1 x9 x10 M)))))
def wX12_bestOrder (p1 : Int) (Q : Int → ts_M → Prop) (M : ts_M) : Prop :=
  (∀ M1, M1 = ts_si M 164 0 0 → (wX12_isBetween p1 0 ((M1.1 165 1) - 1) (fun r3 M2 => ((¬ (ts_w r3 = 0) → (wX12_ranks  (fun M4 => (∀ x5 : Int, x5 = (ts_shl 1 (M4.1 165 1)) - 1 → (∀ x6 : Int, x6 = 0 → ∃ n, ts_lp3 (wX12_bestOrder_L44 Q) n p1 x5 x6 M4))) M2)) ∧ (ts_w r3 = 0 → (wX12_fails 1 (fun r12 M11 => Q r12 M11) M2)))) M1))
set_option maxRecDepth 100000 in
set_option maxHeartbeats 4000000 in
theorem mX12_bestOrder {l : Launch} {g : ts_W} (hl : l.stackTraces = false) {p1 : Int} {Q : Int → ts_M → Prop} {M : ts_M} : wX12_bestOrder p1 Q M → ts_Con l g yX12_bestOrder cX12_bestOrder 4 (some .int) 4 0 0 [.ref (ts_ad g 164), ts_v p1] M (ts_Ri Q) := by
  intro h0
  refine ts_Con.of hl (by decide) (Nat.le_of_ble_eq_true rfl) ?_
  intro p e s m args below meth c C
  have H44 : ∀ (n : Nat) (y1 : Int) (y2 : Int) (y3 : Int) (M : ts_M), ts_lp3 (wX12_bestOrder_L44   Q) n y1 y2 y3 M → ts_V p l e (ts_rm 4 0 0) s m args below meth c g 4 0 0 (MQ below (ts_Q g (ts_Ri Q)) args s 0 0 (ts_A g)) 44 [(0, .ref (ts_ad g 164)), (1, ts_v y1), (2, ts_v y2), (3, ts_v y3)] [] M := by
    refine ts_lpr3 (V := fun (y1 : Int) (y2 : Int) (y3 : Int) (M : ts_M) => ts_V p l e (ts_rm 4 0 0) s m args below meth c g 4 0 0 (MQ below (ts_Q g (ts_Ri Q)) args s 0 0 (ts_A g)) 44 [(0, .ref (ts_ad g 164)), (1, ts_v y1), (2, ts_v y2), (3, ts_v y3)] [] M) ?_
    intro k44 hk44 y1 y2 y3 M
    unfold wX12_bestOrder_L44
    refine ts_iload_n C dX12_bestOrder_44 rfl 3 rfl ?_
    refine ts_iload_n C dX12_bestOrder_45 rfl 1 rfl ?_
    refine ts_cmp_ge C rfl rfl 66 dX12_bestOrder_46 rfl ?_ ?_
    · refine ts_aload_n C dX12_bestOrder_66 rfl 0 rfl ?_
      refine ts_aload_n C dX12_bestOrder_67 rfl 0 rfl ?_
      refine tgX12_10 C q_1968 dX12_bestOrder_68 ?_
      refine ts_iload_n C dX12_bestOrder_71 rfl 2 rfl ?_
      refine ts_iald C (by decide) shG171 dX12_bestOrder_72 ?_
      refine ts_callVi C [ts_v (M.1 171 (ts_w y2))] (mX12_idAt hl) kX12_idAt q_2089 (by decide) shX12 rfl rfl rfl (Nat.le_of_ble_eq_true rfl) ⟨Nat.le_of_ble_eq_true rfl, Nat.le_of_ble_eq_true rfl⟩ ⟨Nat.le_of_ble_eq_true rfl, Nat.le_of_ble_eq_true rfl⟩ dX12_bestOrder_73 (fun r8 M7 => ?_)
      exact ts_ireti C (Nat.zero_le _) (Nat.zero_le _) dX12_bestOrder_76
    · refine ts_iload_n C dX12_bestOrder_49 rfl 2 rfl ?_
      refine ts_iconst C dX12_bestOrder_50 1 rfl ?_
      refine ts_aload_n C dX12_bestOrder_51 rfl 0 rfl ?_
      refine tgX12_10 C q_1968 dX12_bestOrder_52 ?_
      refine ts_iload_n C dX12_bestOrder_55 rfl 2 rfl ?_
      refine ts_iald C (by decide) shG171 dX12_bestOrder_56 ?_
      refine ts_ishl C dX12_bestOrder_57 ?_
      refine ts_isub C dX12_bestOrder_58 ?_
      refine ts_istore_n C dX12_bestOrder_59 rfl (by decide) (lv' := fun x9 => [(2, ts_v x9), (0, .ref (ts_ad g 164)), (1, ts_v y1), (3, ts_v y3)]) (fun _ => rfl) (fun x9 => ?_)
      refine ts_iinc C dX12_bestOrder_60 3 rfl (by decide) (lv' := fun x10 => [(3, ts_v x10), (2, ts_v x9), (0, .ref (ts_ad g 164)), (1, ts_v y1)]) (fun _ => rfl) (fun x10 => ?_)
      refine ts_goto C 44 dX12_bestOrder_63 rfl ?_
      exact ts_sub [2, 3, 1, 0] rfl (hk44 _ _ _ _)
  revert h0
  unfold wX12_bestOrder
  have hl0 : lv_args 0 [.ref (ts_ad g 164), ts_v p1] = [(0, .ref (ts_ad g 164)), (1, ts_v p1)] := rfl
  rw [hl0]
  refine ts_aload_n C dX12_bestOrder_0 rfl 0 rfl ?_
  refine ts_iconst C dX12_bestOrder_1 0 rfl ?_
  refine tpX12_0 C q_1958 dX12_bestOrder_2 (fun M1 => ?_)
  refine ts_iload_n C dX12_bestOrder_5 rfl 1 rfl ?_
  refine ts_iconst C dX12_bestOrder_6 0 rfl ?_
  refine ts_aload_n C dX12_bestOrder_7 rfl 0 rfl ?_
  refine tgX12_1 C q_1959 dX12_bestOrder_8 ?_
  refine ts_iconst C dX12_bestOrder_11 1 rfl ?_
  refine ts_ialdc C (by decide) shG165 tw_1 (by decide) dX12_bestOrder_12 ?_
  refine ts_iconst C dX12_bestOrder_13 1 rfl ?_
  refine ts_isub C dX12_bestOrder_14 ?_
  refine ts_callSi C [ts_v p1, ts_v 0, ts_v ((M1.1 165 1) - 1)] (mX12_isBetween hl) kX12_isBetween q_2034 rfl rfl (Nat.le_of_ble_eq_true rfl) ⟨Nat.le_of_ble_eq_true rfl, Nat.le_of_ble_eq_true rfl⟩ ⟨Nat.le_of_ble_eq_true rfl, Nat.le_of_ble_eq_true rfl⟩ dX12_bestOrder_15 (fun r3 M2 => ?_)
  refine ts_cm0_ne C rfl 27 dX12_bestOrder_18 rfl ?_ ?_
  · refine ts_aload_n C dX12_bestOrder_27 rfl 0 rfl ?_
    refine ts_callVv C [] (mX12_ranks hl) kX12_ranks q_2389 (by decide) shX12 rfl rfl rfl (Nat.le_of_ble_eq_true rfl) ⟨Nat.le_of_ble_eq_true rfl, Nat.le_of_ble_eq_true rfl⟩ ⟨Nat.le_of_ble_eq_true rfl, Nat.le_of_ble_eq_true rfl⟩ dX12_bestOrder_28 (fun M4 => ?_)
    refine ts_iconst C dX12_bestOrder_31 1 rfl ?_
    refine ts_aload_n C dX12_bestOrder_32 rfl 0 rfl ?_
    refine tgX12_1 C q_1959 dX12_bestOrder_33 ?_
    refine ts_iconst C dX12_bestOrder_36 1 rfl ?_
    refine ts_ialdc C (by decide) shG165 tw_1 (by decide) dX12_bestOrder_37 ?_
    refine ts_ishl C dX12_bestOrder_38 ?_
    refine ts_iconst C dX12_bestOrder_39 1 rfl ?_
    refine ts_isub C dX12_bestOrder_40 ?_
    refine ts_istore_n C dX12_bestOrder_41 rfl (by decide) (lv' := fun x5 => [(2, ts_v x5), (0, .ref (ts_ad g 164)), (1, ts_v p1)]) (fun _ => rfl) (fun x5 => ?_)
    refine ts_iconst C dX12_bestOrder_42 0 rfl ?_
    refine ts_istore_n C dX12_bestOrder_43 rfl (by decide) (lv' := fun x6 => [(3, ts_v x6), (2, ts_v x5), (0, .ref (ts_ad g 164)), (1, ts_v p1)]) (fun _ => rfl) (fun x6 => ?_)
    rintro ⟨n, hn⟩
    exact ts_sub [2, 3, 1, 0] rfl (H44 n _ _ _ _) hn
  · refine ts_aload_n C dX12_bestOrder_21 rfl 0 rfl ?_
    refine ts_iconst C dX12_bestOrder_22 1 rfl ?_
    refine ts_callVi C [ts_v 1] (mX12_fails hl) kX12_fails q_2037 (by decide) shX12 rfl rfl rfl (Nat.le_of_ble_eq_true rfl) ⟨Nat.le_of_ble_eq_true rfl, Nat.le_of_ble_eq_true rfl⟩ ⟨Nat.le_of_ble_eq_true rfl, Nat.le_of_ble_eq_true rfl⟩ dX12_bestOrder_23 (fun r12 M11 => ?_)
    exact ts_ireti C (Nat.zero_le _) (Nat.zero_le _) dX12_bestOrder_26
def wX12_beatsOthers_B58  (k2 : Int → Int → ts_M → Prop) (k14 : Int → Int → Int → ts_M → Prop) (Q : Int → ts_M → Prop)  (y1 : Int) (y2 : Int) (y3 : Int) (M : ts_M) : Prop :=
  (∀ x4 : Int, x4 = y3 + 1 → k14 y1 y2 x4 M)
def wX12_beatsOthers_L14  (k2 : Int → Int → ts_M → Prop) (Q : Int → ts_M → Prop) (k14 : Int → Int → Int → ts_M → Prop) (y1 : Int) (y2 : Int) (y3 : Int) (M : ts_M) : Prop :=
  ((ts_w (M.1 165 1) ≤ ts_w y3 → (∀ x3 : Int, x3 = y2 + 1 → k2 y1 x3 M)) ∧ (¬ (ts_w (M.1 165 1) ≤ ts_w y3) → ((¬ (ts_w (ts_and (ts_shr y1 y2) 1) = 1) → wX12_beatsOthers_B58 k2 k14 Q y1 y2 y3 M) ∧ (ts_w (ts_and (ts_shr y1 y2) 1) = 1 → ((¬ (ts_w (ts_and (ts_shr y1 y3) 1) = 0) → wX12_beatsOthers_B58 k2 k14 Q y1 y2 y3 M) ∧ (ts_w (ts_and (ts_shr y1 y3) 1) = 0 → (wX12_supports y2 y3 (fun r6 M5 => (wX12_supports y3 y2 (fun r8 M7 => ((ts_w r8 < ts_w r6 → wX12_beatsOthers_B58 k2 k14 Q y1 y2 y3 M7) ∧ (¬ (ts_w r8 < ts_w r6) → Q 0 M7))) M5)) M)))))))
def wX12_beatsOthers_L2   (Q : Int → ts_M → Prop) (k2 : Int → Int → ts_M → Prop) (y1 : Int) (y2 : Int) (M : ts_M) : Prop :=
  ((ts_w (M.1 165 1) ≤ ts_w y2 → Q 1 M) ∧ (¬ (ts_w (M.1 165 1) ≤ ts_w y2) → (∀ x2 : Int, x2 = 0 → ∃ n, ts_lp3 (wX12_beatsOthers_L14 k2 Q) n y1 y2 x2 M)))
def wX12_beatsOthers (p1 : Int) (Q : Int → ts_M → Prop) (M : ts_M) : Prop :=
  (∀ x1 : Int, x1 = 0 → ∃ n, ts_lp2 (wX12_beatsOthers_L2 Q) n p1 x1 M)
set_option maxRecDepth 100000 in
set_option maxHeartbeats 4000000 in
theorem mX12_beatsOthers {l : Launch} {g : ts_W} (hl : l.stackTraces = false) {p1 : Int} {Q : Int → ts_M → Prop} {M : ts_M} : wX12_beatsOthers p1 Q M → ts_Con l g yX12_beatsOthers cX12_beatsOthers 4 (some .boolean) 2 0 0 [.ref (ts_ad g 164), ts_v p1] M (ts_Ri Q) := by
  intro h0
  refine ts_Con.of hl (by decide) (Nat.le_of_ble_eq_true rfl) ?_
  intro p e s m args below meth c C
  have H58 : ∀ (k2 : Int → Int → ts_M → Prop) (hk2 : ∀ (y1 : Int) (y2 : Int) (M : ts_M), k2 y1 y2 M → ts_V p l e (ts_rm 2 0 0) s m args below meth c g 4 0 0 (MQ below (ts_Q g (ts_Ri Q)) args s 0 0 (ts_A g)) 2 [(0, .ref (ts_ad g 164)), (1, ts_v y1), (2, ts_v y2)] [] M) (k14 : Int → Int → Int → ts_M → Prop) (hk14 : ∀ (y1 : Int) (y2 : Int) (y3 : Int) (M : ts_M), k14 y1 y2 y3 M → ts_V p l e (ts_rm 2 0 0) s m args below meth c g 4 0 0 (MQ below (ts_Q g (ts_Ri Q)) args s 0 0 (ts_A g)) 14 [(0, .ref (ts_ad g 164)), (1, ts_v y1), (2, ts_v y2), (3, ts_v y3)] [] M) (y1 : Int) (y2 : Int) (y3 : Int) (M : ts_M), wX12_beatsOthers_B58  k2 k14 Q y1 y2 y3 M → ts_V p l e (ts_rm 2 0 0) s m args below meth c g 4 0 0 (MQ below (ts_Q g (ts_Ri Q)) args s 0 0 (ts_A g)) 58 [(0, .ref (ts_ad g 164)), (1, ts_v y1), (2, ts_v y2), (3, ts_v y3)] [] M := by
    intro k2 hk2 k14 hk14 y1 y2 y3 M
    unfold wX12_beatsOthers_B58
    refine ts_iinc C dX12_beatsOthers_58 3 rfl (by decide) (lv' := fun x4 => [(3, ts_v x4), (0, .ref (ts_ad g 164)), (1, ts_v y1), (2, ts_v y2)]) (fun _ => rfl) (fun x4 => ?_)
    refine ts_goto C 14 dX12_beatsOthers_61 rfl ?_
    exact ts_sub [1, 2, 3, 0] rfl (hk14 _ _ _ _)
  have H14 : ∀ (k2 : Int → Int → ts_M → Prop) (hk2 : ∀ (y1 : Int) (y2 : Int) (M : ts_M), k2 y1 y2 M → ts_V p l e (ts_rm 2 0 0) s m args below meth c g 4 0 0 (MQ below (ts_Q g (ts_Ri Q)) args s 0 0 (ts_A g)) 2 [(0, .ref (ts_ad g 164)), (1, ts_v y1), (2, ts_v y2)] [] M) (n : Nat) (y1 : Int) (y2 : Int) (y3 : Int) (M : ts_M), ts_lp3 (wX12_beatsOthers_L14  k2 Q) n y1 y2 y3 M → ts_V p l e (ts_rm 2 0 0) s m args below meth c g 4 0 0 (MQ below (ts_Q g (ts_Ri Q)) args s 0 0 (ts_A g)) 14 [(0, .ref (ts_ad g 164)), (1, ts_v y1), (2, ts_v y2), (3, ts_v y3)] [] M := by
    intro k2 hk2
    refine ts_lpr3 (V := fun (y1 : Int) (y2 : Int) (y3 : Int) (M : ts_M) => ts_V p l e (ts_rm 2 0 0) s m args below meth c g 4 0 0 (MQ below (ts_Q g (ts_Ri Q)) args s 0 0 (ts_A g)) 14 [(0, .ref (ts_ad g 164)), (1, ts_v y1), (2, ts_v y2), (3, ts_v y3)] [] M) ?_
    intro k14 hk14 y1 y2 y3 M
    unfold wX12_beatsOthers_L14
    refine ts_iload_n C dX12_beatsOthers_14 rfl 3 rfl ?_
    refine ts_aload_n C dX12_beatsOthers_15 rfl 0 rfl ?_
    refine tgX12_1 C q_1959 dX12_beatsOthers_16 ?_
    refine ts_iconst C dX12_beatsOthers_19 1 rfl ?_
    refine ts_ialdc C (by decide) shG165 tw_1 (by decide) dX12_beatsOthers_20 ?_
    refine ts_cmp_ge C rfl rfl 64 dX12_beatsOthers_21 rfl ?_ ?_
    · refine ts_iinc C dX12_beatsOthers_64 2 rfl (by decide) (lv' := fun x3 => [(2, ts_v x3), (0, .ref (ts_ad g 164)), (1, ts_v y1), (3, ts_v y3)]) (fun _ => rfl) (fun x3 => ?_)
      refine ts_goto C 2 dX12_beatsOthers_67 rfl ?_
      exact ts_sub [1, 2, 0] rfl (hk2 _ _ _)
    · refine ts_iload_n C dX12_beatsOthers_24 rfl 1 rfl ?_
      refine ts_iload_n C dX12_beatsOthers_25 rfl 2 rfl ?_
      refine ts_ishr C dX12_beatsOthers_26 ?_
      refine ts_iconst C dX12_beatsOthers_27 1 rfl ?_
      refine ts_iand C dX12_beatsOthers_28 ?_
      refine ts_iconst C dX12_beatsOthers_29 1 rfl ?_
      refine ts_cmp_ne C rfl tw_1 58 dX12_beatsOthers_30 rfl ?_ ?_
      · exact ts_sub [0, 1, 2, 3] rfl (H58 k2 hk2 k14 hk14 _ _ _ _)
      · refine ts_iload_n C dX12_beatsOthers_33 rfl 1 rfl ?_
        refine ts_iload_n C dX12_beatsOthers_34 rfl 3 rfl ?_
        refine ts_ishr C dX12_beatsOthers_35 ?_
        refine ts_iconst C dX12_beatsOthers_36 1 rfl ?_
        refine ts_iand C dX12_beatsOthers_37 ?_
        refine ts_cm0_ne C rfl 58 dX12_beatsOthers_38 rfl ?_ ?_
        · exact ts_sub [0, 1, 2, 3] rfl (H58 k2 hk2 k14 hk14 _ _ _ _)
        · refine ts_aload_n C dX12_beatsOthers_41 rfl 0 rfl ?_
          refine ts_iload_n C dX12_beatsOthers_42 rfl 2 rfl ?_
          refine ts_iload_n C dX12_beatsOthers_43 rfl 3 rfl ?_
          refine ts_callVi C [ts_v y2, ts_v y3] (mX12_supports hl) kX12_supports q_2381 (by decide) shX12 rfl rfl rfl (Nat.le_of_ble_eq_true rfl) ⟨Nat.le_of_ble_eq_true rfl, Nat.le_of_ble_eq_true rfl⟩ ⟨Nat.le_of_ble_eq_true rfl, Nat.le_of_ble_eq_true rfl⟩ dX12_beatsOthers_44 (fun r6 M5 => ?_)
          refine ts_aload_n C dX12_beatsOthers_47 rfl 0 rfl ?_
          refine ts_iload_n C dX12_beatsOthers_48 rfl 3 rfl ?_
          refine ts_iload_n C dX12_beatsOthers_49 rfl 2 rfl ?_
          refine ts_callVi C [ts_v y3, ts_v y2] (mX12_supports hl) kX12_supports q_2381 (by decide) shX12 rfl rfl rfl (Nat.le_of_ble_eq_true rfl) ⟨Nat.le_of_ble_eq_true rfl, Nat.le_of_ble_eq_true rfl⟩ ⟨Nat.le_of_ble_eq_true rfl, Nat.le_of_ble_eq_true rfl⟩ dX12_beatsOthers_50 (fun r8 M7 => ?_)
          refine ts_cmp_gt C rfl rfl 58 dX12_beatsOthers_53 rfl ?_ ?_
          · exact ts_sub [0, 1, 2, 3] rfl (H58 k2 hk2 k14 hk14 _ _ _ _)
          · refine ts_iconst C dX12_beatsOthers_56 0 rfl ?_
            exact ts_zretci C (by decide) (Nat.zero_le _) (Nat.zero_le _) dX12_beatsOthers_57
  have H2 : ∀ (n : Nat) (y1 : Int) (y2 : Int) (M : ts_M), ts_lp2 (wX12_beatsOthers_L2   Q) n y1 y2 M → ts_V p l e (ts_rm 2 0 0) s m args below meth c g 4 0 0 (MQ below (ts_Q g (ts_Ri Q)) args s 0 0 (ts_A g)) 2 [(0, .ref (ts_ad g 164)), (1, ts_v y1), (2, ts_v y2)] [] M := by
    refine ts_lpr2 (V := fun (y1 : Int) (y2 : Int) (M : ts_M) => ts_V p l e (ts_rm 2 0 0) s m args below meth c g 4 0 0 (MQ below (ts_Q g (ts_Ri Q)) args s 0 0 (ts_A g)) 2 [(0, .ref (ts_ad g 164)), (1, ts_v y1), (2, ts_v y2)] [] M) ?_
    intro k2 hk2 y1 y2 M
    unfold wX12_beatsOthers_L2
    refine ts_iload_n C dX12_beatsOthers_2 rfl 2 rfl ?_
    refine ts_aload_n C dX12_beatsOthers_3 rfl 0 rfl ?_
    refine tgX12_1 C q_1959 dX12_beatsOthers_4 ?_
    refine ts_iconst C dX12_beatsOthers_7 1 rfl ?_
    refine ts_ialdc C (by decide) shG165 tw_1 (by decide) dX12_beatsOthers_8 ?_
    refine ts_cmp_ge C rfl rfl 70 dX12_beatsOthers_9 rfl ?_ ?_
    · refine ts_iconst C dX12_beatsOthers_70 1 rfl ?_
      exact ts_zretci C (by decide) (Nat.zero_le _) (Nat.zero_le _) dX12_beatsOthers_71
    · refine ts_iconst C dX12_beatsOthers_12 0 rfl ?_
      refine ts_istore_n C dX12_beatsOthers_13 rfl (by decide) (lv' := fun x2 => [(3, ts_v x2), (0, .ref (ts_ad g 164)), (1, ts_v y1), (2, ts_v y2)]) (fun _ => rfl) (fun x2 => ?_)
      rintro ⟨n, hn⟩
      exact ts_sub [1, 2, 3, 0] rfl (H14 k2 hk2 n _ _ _ _) hn
  revert h0
  unfold wX12_beatsOthers
  have hl0 : lv_args 0 [.ref (ts_ad g 164), ts_v p1] = [(0, .ref (ts_ad g 164)), (1, ts_v p1)] := rfl
  rw [hl0]
  refine ts_iconst C dX12_beatsOthers_0 0 rfl ?_
  refine ts_istore_n C dX12_beatsOthers_1 rfl (by decide) (lv' := fun x1 => [(2, ts_v x1), (0, .ref (ts_ad g 164)), (1, ts_v p1)]) (fun _ => rfl) (fun x1 => ?_)
  rintro ⟨n, hn⟩
  exact ts_sub [1, 2, 0] rfl (H2 n _ _ _) hn
def wX12_many_L4   (Q : Int → ts_M → Prop) (k4 : Int → Int → ts_M → Prop) (y1 : Int) (y2 : Int) (M : ts_M) : Prop :=
  ((ts_w y2 ≤ 0 → Q y1 M) ∧ (¬ (ts_w y2 ≤ 0) → (∀ x3 : Int, x3 = y1 + (ts_rem y2 2) → (∀ x4 : Int, x4 = ts_div y2 2 → k4 x3 x4 M))))
def wX12_many (p1 : Int) (Q : Int → ts_M → Prop) (M : ts_M) : Prop :=
  (∀ x1 : Int, x1 = 0 → (∀ x2 : Int, x2 = p1 → ∃ n, ts_lp2 (wX12_many_L4 Q) n x1 x2 M))
set_option maxRecDepth 100000 in
set_option maxHeartbeats 4000000 in
theorem mX12_many {l : Launch} {g : ts_W} (hl : l.stackTraces = false) {p1 : Int} {Q : Int → ts_M → Prop} {M : ts_M} : wX12_many p1 Q M → ts_Con l g yX12_many cX12_many 3 (some .int) 0 0 0 [ts_v p1] M (ts_Ri Q) := by
  intro h0
  refine ts_Con.of hl (by decide) (Nat.le_of_ble_eq_true rfl) ?_
  intro p e s m args below meth c C
  have H4 : ∀ (n : Nat) (y1 : Int) (y2 : Int) (M : ts_M), ts_lp2 (wX12_many_L4   Q) n y1 y2 M → ts_V p l e (ts_rm 0 0 0) s m args below meth c g 3 0 0 (MQ below (ts_Q g (ts_Ri Q)) args s 0 0 (ts_A g)) 4 [(1, ts_v y1), (2, ts_v y2)] [] M := by
    refine ts_lpr2 (V := fun (y1 : Int) (y2 : Int) (M : ts_M) => ts_V p l e (ts_rm 0 0 0) s m args below meth c g 3 0 0 (MQ below (ts_Q g (ts_Ri Q)) args s 0 0 (ts_A g)) 4 [(1, ts_v y1), (2, ts_v y2)] [] M) ?_
    intro k4 hk4 y1 y2 M
    unfold wX12_many_L4
    refine ts_iload_n C dX12_many_4 rfl 1 rfl ?_
    refine ts_cm0_le C rfl 21 dX12_many_5 rfl ?_ ?_
    · refine ts_iload_n C dX12_many_21 rfl 0 rfl ?_
      exact ts_ireti C (Nat.zero_le _) (Nat.zero_le _) dX12_many_22
    · refine ts_iload_n C dX12_many_8 rfl 0 rfl ?_
      refine ts_iload_n C dX12_many_9 rfl 1 rfl ?_
      refine ts_iconst C dX12_many_10 2 rfl ?_
      refine ts_iremc C (by rw [tw_2]; decide) dX12_many_11 ?_
      refine ts_iadd C dX12_many_12 ?_
      refine ts_istore_n C dX12_many_13 rfl (by decide) (lv' := fun x3 => [(1, ts_v x3), (2, ts_v y2)]) (fun _ => rfl) (fun x3 => ?_)
      refine ts_iload_n C dX12_many_14 rfl 1 rfl ?_
      refine ts_iconst C dX12_many_15 2 rfl ?_
      refine ts_idivc C (by rw [tw_2]; decide) dX12_many_16 ?_
      refine ts_istore_n C dX12_many_17 rfl (by decide) (lv' := fun x4 => [(2, ts_v x4), (1, ts_v x3)]) (fun _ => rfl) (fun x4 => ?_)
      refine ts_goto C 4 dX12_many_18 rfl ?_
      exact ts_sub [1, 0] rfl (hk4 _ _ _)
  revert h0
  unfold wX12_many
  have hl0 : lv_args 0 [ts_v p1] = [(0, ts_v p1)] := rfl
  rw [hl0]
  refine ts_iconst C dX12_many_0 0 rfl ?_
  refine ts_istore_n C dX12_many_1 rfl (by decide) (lv' := fun x1 => [(1, ts_v x1), (0, ts_v p1)]) (fun _ => rfl) (fun x1 => ?_)
  refine ts_iload_n C dX12_many_2 rfl 1 rfl ?_
  refine ts_istore_n C dX12_many_3 rfl (by decide) (lv' := fun x2 => [(2, ts_v x2), (1, ts_v x1), (0, ts_v p1)]) (fun _ => rfl) (fun x2 => ?_)
  rintro ⟨n, hn⟩
  exact ts_sub [1, 0] rfl (H4 n _ _ _) hn
def wX12_isInTop_B97   (Q : Int → ts_M → Prop)  (z0 : Int) (M : ts_M) : Prop :=
  ((ts_w z0 = 0 ∨ ts_w z0 = 1) ∧ Q z0 M)
def wX12_isInTop_B73  (k40 : Int → Int → Int → ts_M → Prop) (Q : Int → ts_M → Prop)  (y1 : Int) (y2 : Int) (y3 : Int) (M : ts_M) : Prop :=
  (∀ x12 : Int, x12 = y3 + 1 → k40 y1 y2 x12 M)
def wX12_isInTop_L40   (Q : Int → ts_M → Prop) (k40 : Int → Int → Int → ts_M → Prop) (y1 : Int) (y2 : Int) (y3 : Int) (M : ts_M) : Prop :=
  ((ts_w (ts_shl 1 (M.1 165 1)) ≤ ts_w y3 → (wX12_place y1 (fun r7 M6 => ((¬ (ts_w (ts_and (ts_shr y2 r7) 1) = 1) → wX12_isInTop_B97 Q 0 M6) ∧ (ts_w (ts_and (ts_shr y2 r7) 1) = 1 → wX12_isInTop_B97 Q 1 M6))) M)) ∧ (¬ (ts_w (ts_shl 1 (M.1 165 1)) ≤ ts_w y3) → (wX12_many y3 (fun r9 M8 => (wX12_many y2 (fun r11 M10 => ((ts_w r11 ≤ ts_w r9 → wX12_isInTop_B73 k40 Q y1 y2 y3 M10) ∧ (¬ (ts_w r11 ≤ ts_w r9) → (wX12_beatsOthers y3 (fun r14 M13 => ((ts_w r14 = 0 → wX12_isInTop_B73 k40 Q y1 y2 y3 M13) ∧ (¬ (ts_w r14 = 0) → (∀ x15 : Int, x15 = y3 → wX12_isInTop_B73 k40 Q y1 x15 y3 M13)))) M10)))) M8)) M)))
def wX12_isInTop_B26   (Q : Int → ts_M → Prop)  (z0 : Int) (M : ts_M) : Prop :=
  ((ts_w z0 = 0 ∨ ts_w z0 = 1) ∧ Q z0 M)
def wX12_isInTop (p1 : Int) (Q : Int → ts_M → Prop) (M : ts_M) : Prop :=
  (∀ M1, M1 = ts_si M 164 0 0 → (wX12_place p1 (fun r3 M2 => ((0 ≤ ts_w r3 → (∀ x4 : Int, x4 = (ts_shl 1 (M2.1 165 1)) - 1 → (∀ x5 : Int, x5 = 1 → ∃ n, ts_lp3 (wX12_isInTop_L40 Q) n p1 x4 x5 M2))) ∧ (¬ (0 ≤ ts_w r3) → (wX12_fails 1 (fun r17 M16 => ((ts_w r17 ≤ 0 → wX12_isInTop_B26 Q 0 M16) ∧ (¬ (ts_w r17 ≤ 0) → wX12_isInTop_B26 Q 1 M16))) M2)))) M1))
set_option maxRecDepth 100000 in
set_option maxHeartbeats 4000000 in
theorem mX12_isInTop {l : Launch} {g : ts_W} (hl : l.stackTraces = false) {p1 : Int} {Q : Int → ts_M → Prop} {M : ts_M} : wX12_isInTop p1 Q M → ts_Con l g yX12_isInTop cX12_isInTop 4 (some .boolean) 3 0 0 [.ref (ts_ad g 164), ts_v p1] M (ts_Ri Q) := by
  intro h0
  refine ts_Con.of hl (by decide) (Nat.le_of_ble_eq_true rfl) ?_
  intro p e s m args below meth c C
  have H97 : ∀ (z0 : Int) (M : ts_M), wX12_isInTop_B97   Q z0 M → ts_V p l e (ts_rm 3 0 0) s m args below meth c g 4 0 0 (MQ below (ts_Q g (ts_Ri Q)) args s 0 0 (ts_A g)) 97 [] [ts_v z0] M := by
    intro  z0 M
    unfold wX12_isInTop_B97
    exact ts_zreti C (Nat.zero_le _) (Nat.zero_le _) dX12_isInTop_97
  have H73 : ∀ (k40 : Int → Int → Int → ts_M → Prop) (hk40 : ∀ (y1 : Int) (y2 : Int) (y3 : Int) (M : ts_M), k40 y1 y2 y3 M → ts_V p l e (ts_rm 3 0 0) s m args below meth c g 4 0 0 (MQ below (ts_Q g (ts_Ri Q)) args s 0 0 (ts_A g)) 40 [(0, .ref (ts_ad g 164)), (1, ts_v y1), (2, ts_v y2), (3, ts_v y3)] [] M) (y1 : Int) (y2 : Int) (y3 : Int) (M : ts_M), wX12_isInTop_B73  k40 Q y1 y2 y3 M → ts_V p l e (ts_rm 3 0 0) s m args below meth c g 4 0 0 (MQ below (ts_Q g (ts_Ri Q)) args s 0 0 (ts_A g)) 73 [(0, .ref (ts_ad g 164)), (1, ts_v y1), (2, ts_v y2), (3, ts_v y3)] [] M := by
    intro k40 hk40 y1 y2 y3 M
    unfold wX12_isInTop_B73
    refine ts_iinc C dX12_isInTop_73 3 rfl (by decide) (lv' := fun x12 => [(3, ts_v x12), (0, .ref (ts_ad g 164)), (1, ts_v y1), (2, ts_v y2)]) (fun _ => rfl) (fun x12 => ?_)
    refine ts_goto C 40 dX12_isInTop_76 rfl ?_
    exact ts_sub [1, 2, 3, 0] rfl (hk40 _ _ _ _)
  have H40 : ∀ (n : Nat) (y1 : Int) (y2 : Int) (y3 : Int) (M : ts_M), ts_lp3 (wX12_isInTop_L40   Q) n y1 y2 y3 M → ts_V p l e (ts_rm 3 0 0) s m args below meth c g 4 0 0 (MQ below (ts_Q g (ts_Ri Q)) args s 0 0 (ts_A g)) 40 [(0, .ref (ts_ad g 164)), (1, ts_v y1), (2, ts_v y2), (3, ts_v y3)] [] M := by
    refine ts_lpr3 (V := fun (y1 : Int) (y2 : Int) (y3 : Int) (M : ts_M) => ts_V p l e (ts_rm 3 0 0) s m args below meth c g 4 0 0 (MQ below (ts_Q g (ts_Ri Q)) args s 0 0 (ts_A g)) 40 [(0, .ref (ts_ad g 164)), (1, ts_v y1), (2, ts_v y2), (3, ts_v y3)] [] M) ?_
    intro k40 hk40 y1 y2 y3 M
    unfold wX12_isInTop_L40
    refine ts_iload_n C dX12_isInTop_40 rfl 3 rfl ?_
    refine ts_iconst C dX12_isInTop_41 1 rfl ?_
    refine ts_aload_n C dX12_isInTop_42 rfl 0 rfl ?_
    refine tgX12_1 C q_1959 dX12_isInTop_43 ?_
    refine ts_iconst C dX12_isInTop_46 1 rfl ?_
    refine ts_ialdc C (by decide) shG165 tw_1 (by decide) dX12_isInTop_47 ?_
    refine ts_ishl C dX12_isInTop_48 ?_
    refine ts_cmp_ge C rfl rfl 79 dX12_isInTop_49 rfl ?_ ?_
    · refine ts_iload_n C dX12_isInTop_79 rfl 2 rfl ?_
      refine ts_aload_n C dX12_isInTop_80 rfl 0 rfl ?_
      refine ts_iload_n C dX12_isInTop_81 rfl 1 rfl ?_
      refine ts_callVi C [ts_v y1] (mX12_place hl) kX12_place q_2085 (by decide) shX12 rfl rfl rfl (Nat.le_of_ble_eq_true rfl) ⟨Nat.le_of_ble_eq_true rfl, Nat.le_of_ble_eq_true rfl⟩ ⟨Nat.le_of_ble_eq_true rfl, Nat.le_of_ble_eq_true rfl⟩ dX12_isInTop_82 (fun r7 M6 => ?_)
      refine ts_ishr C dX12_isInTop_85 ?_
      refine ts_iconst C dX12_isInTop_86 1 rfl ?_
      refine ts_iand C dX12_isInTop_87 ?_
      refine ts_iconst C dX12_isInTop_88 1 rfl ?_
      refine ts_cmp_ne C rfl tw_1 96 dX12_isInTop_89 rfl ?_ ?_
      · refine ts_iconst C dX12_isInTop_96 0 rfl ?_
        exact ts_sub [] rfl (H97 _ _)
      · refine ts_iconst C dX12_isInTop_92 1 rfl ?_
        refine ts_goto C 97 dX12_isInTop_93 rfl ?_
        exact ts_sub [] rfl (H97 _ _)
    · refine ts_iload_n C dX12_isInTop_52 rfl 3 rfl ?_
      refine ts_callSi C [ts_v y3] (mX12_many hl) kX12_many q_2410 rfl rfl (Nat.le_of_ble_eq_true rfl) ⟨Nat.le_of_ble_eq_true rfl, Nat.le_of_ble_eq_true rfl⟩ ⟨Nat.le_of_ble_eq_true rfl, Nat.le_of_ble_eq_true rfl⟩ dX12_isInTop_53 (fun r9 M8 => ?_)
      refine ts_iload_n C dX12_isInTop_56 rfl 2 rfl ?_
      refine ts_callSi C [ts_v y2] (mX12_many hl) kX12_many q_2410 rfl rfl (Nat.le_of_ble_eq_true rfl) ⟨Nat.le_of_ble_eq_true rfl, Nat.le_of_ble_eq_true rfl⟩ ⟨Nat.le_of_ble_eq_true rfl, Nat.le_of_ble_eq_true rfl⟩ dX12_isInTop_57 (fun r11 M10 => ?_)
      refine ts_cmp_ge C rfl rfl 73 dX12_isInTop_60 rfl ?_ ?_
      · exact ts_sub [0, 1, 2, 3] rfl (H73 k40 hk40 _ _ _ _)
      · refine ts_aload_n C dX12_isInTop_63 rfl 0 rfl ?_
        refine ts_iload_n C dX12_isInTop_64 rfl 3 rfl ?_
        refine ts_callVi C [ts_v y3] (mX12_beatsOthers hl) kX12_beatsOthers q_2413 (by decide) shX12 rfl rfl rfl (Nat.le_of_ble_eq_true rfl) ⟨Nat.le_of_ble_eq_true rfl, Nat.le_of_ble_eq_true rfl⟩ ⟨Nat.le_of_ble_eq_true rfl, Nat.le_of_ble_eq_true rfl⟩ dX12_isInTop_65 (fun r14 M13 => ?_)
        refine ts_cm0_eq C rfl 73 dX12_isInTop_68 rfl ?_ ?_
        · exact ts_sub [0, 1, 2, 3] rfl (H73 k40 hk40 _ _ _ _)
        · refine ts_iload_n C dX12_isInTop_71 rfl 3 rfl ?_
          refine ts_istore_n C dX12_isInTop_72 rfl (by decide) (lv' := fun x15 => [(2, ts_v x15), (0, .ref (ts_ad g 164)), (1, ts_v y1), (3, ts_v y3)]) (fun _ => rfl) (fun x15 => ?_)
          exact ts_sub [1, 2, 0, 3] rfl (H73 k40 hk40 _ _ _ _)
  have H26 : ∀ (z0 : Int) (M : ts_M), wX12_isInTop_B26   Q z0 M → ts_V p l e (ts_rm 3 0 0) s m args below meth c g 4 0 0 (MQ below (ts_Q g (ts_Ri Q)) args s 0 0 (ts_A g)) 26 [] [ts_v z0] M := by
    intro  z0 M
    unfold wX12_isInTop_B26
    exact ts_zreti C (Nat.zero_le _) (Nat.zero_le _) dX12_isInTop_26
  revert h0
  unfold wX12_isInTop
  have hl0 : lv_args 0 [.ref (ts_ad g 164), ts_v p1] = [(0, .ref (ts_ad g 164)), (1, ts_v p1)] := rfl
  rw [hl0]
  refine ts_aload_n C dX12_isInTop_0 rfl 0 rfl ?_
  refine ts_iconst C dX12_isInTop_1 0 rfl ?_
  refine tpX12_0 C q_1958 dX12_isInTop_2 (fun M1 => ?_)
  refine ts_aload_n C dX12_isInTop_5 rfl 0 rfl ?_
  refine ts_iload_n C dX12_isInTop_6 rfl 1 rfl ?_
  refine ts_callVi C [ts_v p1] (mX12_place hl) kX12_place q_2085 (by decide) shX12 rfl rfl rfl (Nat.le_of_ble_eq_true rfl) ⟨Nat.le_of_ble_eq_true rfl, Nat.le_of_ble_eq_true rfl⟩ ⟨Nat.le_of_ble_eq_true rfl, Nat.le_of_ble_eq_true rfl⟩ dX12_isInTop_7 (fun r3 M2 => ?_)
  refine ts_cm0_ge C rfl 27 dX12_isInTop_10 rfl ?_ ?_
  · refine ts_iconst C dX12_isInTop_27 1 rfl ?_
    refine ts_aload_n C dX12_isInTop_28 rfl 0 rfl ?_
    refine tgX12_1 C q_1959 dX12_isInTop_29 ?_
    refine ts_iconst C dX12_isInTop_32 1 rfl ?_
    refine ts_ialdc C (by decide) shG165 tw_1 (by decide) dX12_isInTop_33 ?_
    refine ts_ishl C dX12_isInTop_34 ?_
    refine ts_iconst C dX12_isInTop_35 1 rfl ?_
    refine ts_isub C dX12_isInTop_36 ?_
    refine ts_istore_n C dX12_isInTop_37 rfl (by decide) (lv' := fun x4 => [(2, ts_v x4), (0, .ref (ts_ad g 164)), (1, ts_v p1)]) (fun _ => rfl) (fun x4 => ?_)
    refine ts_iconst C dX12_isInTop_38 1 rfl ?_
    refine ts_istore_n C dX12_isInTop_39 rfl (by decide) (lv' := fun x5 => [(3, ts_v x5), (2, ts_v x4), (0, .ref (ts_ad g 164)), (1, ts_v p1)]) (fun _ => rfl) (fun x5 => ?_)
    rintro ⟨n, hn⟩
    exact ts_sub [2, 3, 1, 0] rfl (H40 n _ _ _ _) hn
  · refine ts_aload_n C dX12_isInTop_13 rfl 0 rfl ?_
    refine ts_iconst C dX12_isInTop_14 1 rfl ?_
    refine ts_callVi C [ts_v 1] (mX12_fails hl) kX12_fails q_2037 (by decide) shX12 rfl rfl rfl (Nat.le_of_ble_eq_true rfl) ⟨Nat.le_of_ble_eq_true rfl, Nat.le_of_ble_eq_true rfl⟩ ⟨Nat.le_of_ble_eq_true rfl, Nat.le_of_ble_eq_true rfl⟩ dX12_isInTop_15 (fun r17 M16 => ?_)
    refine ts_cm0_le C rfl 25 dX12_isInTop_18 rfl ?_ ?_
    · refine ts_iconst C dX12_isInTop_25 0 rfl ?_
      exact ts_sub [] rfl (H26 _ _)
    · refine ts_iconst C dX12_isInTop_21 1 rfl ?_
      refine ts_goto C 26 dX12_isInTop_22 rfl ?_
      exact ts_sub [] rfl (H26 _ _)
def wX12_isInTopBySets (p1 : Int) (Q : Int → ts_M → Prop) (M : ts_M) : Prop :=
  (wX12_isInTop p1 (fun r2 M1 => ((ts_w r2 = 0 ∨ ts_w r2 = 1) ∧ Q r2 M1)) M)
set_option maxRecDepth 100000 in
set_option maxHeartbeats 4000000 in
theorem mX12_isInTopBySets {l : Launch} {g : ts_W} (hl : l.stackTraces = false) {p1 : Int} {Q : Int → ts_M → Prop} {M : ts_M} : wX12_isInTopBySets p1 Q M → ts_Con l g yX12_isInTopBySets cX12_isInTopBySets 2 (some .boolean) 4 0 0 [.ref (ts_ad g 164), ts_v p1] M (ts_Ri Q) := by
  intro h0
  refine ts_Con.of hl (by decide) (Nat.le_of_ble_eq_true rfl) ?_
  intro p e s m args below meth c C
  revert h0
  unfold wX12_isInTopBySets
  have hl0 : lv_args 0 [.ref (ts_ad g 164), ts_v p1] = [(0, .ref (ts_ad g 164)), (1, ts_v p1)] := rfl
  rw [hl0]
  refine ts_aload_n C dX12_isInTopBySets_0 rfl 0 rfl ?_
  refine ts_iload_n C dX12_isInTopBySets_1 rfl 1 rfl ?_
  refine ts_callVi C [ts_v p1] (mX12_isInTop hl) kX12_isInTop q_2421 (by decide) shX12 rfl rfl rfl (Nat.le_of_ble_eq_true rfl) ⟨Nat.le_of_ble_eq_true rfl, Nat.le_of_ble_eq_true rfl⟩ ⟨Nat.le_of_ble_eq_true rfl, Nat.le_of_ble_eq_true rfl⟩ dX12_isInTopBySets_2 (fun r2 M1 => ?_)
  exact ts_zreti C (Nat.zero_le _) (Nat.zero_le _) dX12_isInTopBySets_5
def wX12_isWet_B50   (Q : Int → ts_M → Prop)  (z0 : Int) (M : ts_M) : Prop :=
  ((ts_w z0 = 0 ∨ ts_w z0 = 1) ∧ Q z0 M)
def wX12_isWet_B26   (Q : Int → ts_M → Prop)  (z0 : Int) (M : ts_M) : Prop :=
  ((ts_w z0 = 0 ∨ ts_w z0 = 1) ∧ Q z0 M)
def wX12_isWet (p1 : Int) (p2 : Int) (Q : Int → ts_M → Prop) (M : ts_M) : Prop :=
  (∀ M1, M1 = ts_si M 164 0 0 → (wX12_isCell p1 p2 (fun r3 M2 => ((¬ (ts_w r3 = 0) → ((0 ≤ ts_w ((82 + (8 * p1)) + p2) ∧ ts_w ((82 + (8 * p1)) + p2) < ((146 : Nat) : Int)) ∧ ((¬ (ts_w (M2.1 165 (ts_w ((82 + (8 * p1)) + p2))) = 1) → wX12_isWet_B50 Q 0 M2) ∧ (ts_w (M2.1 165 (ts_w ((82 + (8 * p1)) + p2))) = 1 → wX12_isWet_B50 Q 1 M2)))) ∧ (ts_w r3 = 0 → (wX12_fails 1 (fun r5 M4 => ((ts_w r5 ≤ 0 → wX12_isWet_B26 Q 0 M4) ∧ (¬ (ts_w r5 ≤ 0) → wX12_isWet_B26 Q 1 M4))) M2)))) M1))
set_option maxRecDepth 100000 in
set_option maxHeartbeats 4000000 in
theorem mX12_isWet {l : Launch} {g : ts_W} (hl : l.stackTraces = false) {p1 : Int} {p2 : Int} {Q : Int → ts_M → Prop} {M : ts_M} : wX12_isWet p1 p2 Q M → ts_Con l g yX12_isWet cX12_isWet 3 (some .boolean) 2 0 0 [.ref (ts_ad g 164), ts_v p1, ts_v p2] M (ts_Ri Q) := by
  intro h0
  refine ts_Con.of hl (by decide) (Nat.le_of_ble_eq_true rfl) ?_
  intro p e s m args below meth c C
  have H50 : ∀ (z0 : Int) (M : ts_M), wX12_isWet_B50   Q z0 M → ts_V p l e (ts_rm 2 0 0) s m args below meth c g 3 0 0 (MQ below (ts_Q g (ts_Ri Q)) args s 0 0 (ts_A g)) 50 [] [ts_v z0] M := by
    intro  z0 M
    unfold wX12_isWet_B50
    exact ts_zreti C (Nat.zero_le _) (Nat.zero_le _) dX12_isWet_50
  have H26 : ∀ (z0 : Int) (M : ts_M), wX12_isWet_B26   Q z0 M → ts_V p l e (ts_rm 2 0 0) s m args below meth c g 3 0 0 (MQ below (ts_Q g (ts_Ri Q)) args s 0 0 (ts_A g)) 26 [] [ts_v z0] M := by
    intro  z0 M
    unfold wX12_isWet_B26
    exact ts_zreti C (Nat.zero_le _) (Nat.zero_le _) dX12_isWet_26
  revert h0
  unfold wX12_isWet
  have hl0 : lv_args 0 [.ref (ts_ad g 164), ts_v p1, ts_v p2] = [(0, .ref (ts_ad g 164)), (1, ts_v p1), (2, ts_v p2)] := rfl
  rw [hl0]
  refine ts_aload_n C dX12_isWet_0 rfl 0 rfl ?_
  refine ts_iconst C dX12_isWet_1 0 rfl ?_
  refine tpX12_0 C q_1958 dX12_isWet_2 (fun M1 => ?_)
  refine ts_iload_n C dX12_isWet_5 rfl 1 rfl ?_
  refine ts_iload_n C dX12_isWet_6 rfl 2 rfl ?_
  refine ts_callSi C [ts_v p1, ts_v p2] (mX12_isCell hl) kX12_isCell q_2235 rfl rfl (Nat.le_of_ble_eq_true rfl) ⟨Nat.le_of_ble_eq_true rfl, Nat.le_of_ble_eq_true rfl⟩ ⟨Nat.le_of_ble_eq_true rfl, Nat.le_of_ble_eq_true rfl⟩ dX12_isWet_7 (fun r3 M2 => ?_)
  refine ts_cm0_ne C rfl 27 dX12_isWet_10 rfl ?_ ?_
  · refine ts_aload_n C dX12_isWet_27 rfl 0 rfl ?_
    refine tgX12_1 C q_1959 dX12_isWet_28 ?_
    refine ts_bipush C dX12_isWet_31 82 tb_82 ?_
    refine ts_bipush C dX12_isWet_33 8 tb_8 ?_
    refine ts_iload_n C dX12_isWet_35 rfl 1 rfl ?_
    refine ts_imul C dX12_isWet_36 ?_
    refine ts_iadd C dX12_isWet_37 ?_
    refine ts_iload_n C dX12_isWet_38 rfl 2 rfl ?_
    refine ts_iadd C dX12_isWet_39 ?_
    refine ts_iald C (by decide) shG165 dX12_isWet_40 ?_
    refine ts_iconst C dX12_isWet_41 1 rfl ?_
    refine ts_cmp_ne C rfl tw_1 49 dX12_isWet_42 rfl ?_ ?_
    · refine ts_iconst C dX12_isWet_49 0 rfl ?_
      exact ts_sub [] rfl (H50 _ _)
    · refine ts_iconst C dX12_isWet_45 1 rfl ?_
      refine ts_goto C 50 dX12_isWet_46 rfl ?_
      exact ts_sub [] rfl (H50 _ _)
  · refine ts_aload_n C dX12_isWet_13 rfl 0 rfl ?_
    refine ts_iconst C dX12_isWet_14 1 rfl ?_
    refine ts_callVi C [ts_v 1] (mX12_fails hl) kX12_fails q_2037 (by decide) shX12 rfl rfl rfl (Nat.le_of_ble_eq_true rfl) ⟨Nat.le_of_ble_eq_true rfl, Nat.le_of_ble_eq_true rfl⟩ ⟨Nat.le_of_ble_eq_true rfl, Nat.le_of_ble_eq_true rfl⟩ dX12_isWet_15 (fun r5 M4 => ?_)
    refine ts_cm0_le C rfl 25 dX12_isWet_18 rfl ?_ ?_
    · refine ts_iconst C dX12_isWet_25 0 rfl ?_
      exact ts_sub [] rfl (H26 _ _)
    · refine ts_iconst C dX12_isWet_21 1 rfl ?_
      refine ts_goto C 26 dX12_isWet_22 rfl ?_
      exact ts_sub [] rfl (H26 _ _)
def wX12_wetCells (Q : Int → ts_M → Prop) (M : ts_M) : Prop :=
  (∀ M1, M1 = ts_si M 164 0 0 → (wX12_wets  (fun r3 M2 => Q r3 M2) M1))
set_option maxRecDepth 100000 in
set_option maxHeartbeats 4000000 in
theorem mX12_wetCells {l : Launch} {g : ts_W} (hl : l.stackTraces = false) {Q : Int → ts_M → Prop} {M : ts_M} : wX12_wetCells Q M → ts_Con l g yX12_wetCells cX12_wetCells 1 (some .int) 1 0 0 [.ref (ts_ad g 164)] M (ts_Ri Q) := by
  intro h0
  refine ts_Con.of hl (by decide) (Nat.le_of_ble_eq_true rfl) ?_
  intro p e s m args below meth c C
  revert h0
  unfold wX12_wetCells
  have hl0 : lv_args 0 [.ref (ts_ad g 164)] = [(0, .ref (ts_ad g 164))] := rfl
  rw [hl0]
  refine ts_aload_n C dX12_wetCells_0 rfl 0 rfl ?_
  refine ts_iconst C dX12_wetCells_1 0 rfl ?_
  refine tpX12_0 C q_1958 dX12_wetCells_2 (fun M1 => ?_)
  refine ts_aload_n C dX12_wetCells_5 rfl 0 rfl ?_
  refine ts_callVi C [] (mX12_wets hl) kX12_wets q_2258 (by decide) shX12 rfl rfl rfl (Nat.le_of_ble_eq_true rfl) ⟨Nat.le_of_ble_eq_true rfl, Nat.le_of_ble_eq_true rfl⟩ ⟨Nat.le_of_ble_eq_true rfl, Nat.le_of_ble_eq_true rfl⟩ dX12_wetCells_6 (fun r3 M2 => ?_)
  exact ts_ireti C (Nat.zero_le _) (Nat.zero_le _) dX12_wetCells_9
def wX12_minutesCount (Q : Int → ts_M → Prop) (M : ts_M) : Prop :=
  (wX12_told 6 (fun r2 M1 => Q r2 M1) M)
set_option maxRecDepth 100000 in
set_option maxHeartbeats 4000000 in
theorem mX12_minutesCount {l : Launch} {g : ts_W} (hl : l.stackTraces = false) {Q : Int → ts_M → Prop} {M : ts_M} : wX12_minutesCount Q M → ts_Con l g yX12_minutesCount cX12_minutesCount 1 (some .int) 1 0 0 [.ref (ts_ad g 164)] M (ts_Ri Q) := by
  intro h0
  refine ts_Con.of hl (by decide) (Nat.le_of_ble_eq_true rfl) ?_
  intro p e s m args below meth c C
  revert h0
  unfold wX12_minutesCount
  have hl0 : lv_args 0 [.ref (ts_ad g 164)] = [(0, .ref (ts_ad g 164))] := rfl
  rw [hl0]
  refine ts_aload_n C dX12_minutesCount_0 rfl 0 rfl ?_
  refine ts_bipush C dX12_minutesCount_1 6 tb_6 ?_
  refine ts_callVi C [ts_v 6] (mX12_told hl) kX12_told q_2290 (by decide) shX12 rfl rfl rfl (Nat.le_of_ble_eq_true rfl) ⟨Nat.le_of_ble_eq_true rfl, Nat.le_of_ble_eq_true rfl⟩ ⟨Nat.le_of_ble_eq_true rfl, Nat.le_of_ble_eq_true rfl⟩ dX12_minutesCount_3 (fun r2 M1 => ?_)
  exact ts_ireti C (Nat.zero_le _) (Nat.zero_le _) dX12_minutesCount_6
def wX12_minute_B66   (Q : Int → ts_M → Prop)  (z0 : Int) (M : ts_M) : Prop :=
  Q z0 M
def wX12_minute_B41   (Q : Int → ts_M → Prop)  (y1 : Int) (z0 : Int) (M : ts_M) : Prop :=
  (∀ x4 : Int, x4 = z0 → ((ts_w x4 = 0 → (wX12_fails 1 (fun r6 M5 => wX12_minute_B66 Q r6 M5) M)) ∧ (¬ (ts_w x4 = 0) → ((0 ≤ ts_w (62 + (ts_rem y1 20)) ∧ ts_w (62 + (ts_rem y1 20)) < ((146 : Nat) : Int)) ∧ wX12_minute_B66 Q (M.1 165 (ts_w (62 + (ts_rem y1 20)))) M))))
def wX12_minute_B40   (Q : Int → ts_M → Prop)  (y1 : Int) (M : ts_M) : Prop :=
  wX12_minute_B41 Q y1 0 M
def wX12_minute (p1 : Int) (Q : Int → ts_M → Prop) (M : ts_M) : Prop :=
  (∀ M1, M1 = ts_si M 164 0 0 → (wX12_isBetween p1 0 ((M1.1 165 6) - 1) (fun r3 M2 => ((ts_w r3 = 0 → wX12_minute_B40 Q p1 M2) ∧ (¬ (ts_w r3 = 0) → ((ts_w p1 < ts_w ((M2.1 165 6) - 20) → wX12_minute_B40 Q p1 M2) ∧ (¬ (ts_w p1 < ts_w ((M2.1 165 6) - 20)) → wX12_minute_B41 Q p1 1 M2))))) M1))
set_option maxRecDepth 100000 in
set_option maxHeartbeats 4000000 in
theorem mX12_minute {l : Launch} {g : ts_W} (hl : l.stackTraces = false) {p1 : Int} {Q : Int → ts_M → Prop} {M : ts_M} : wX12_minute p1 Q M → ts_Con l g yX12_minute cX12_minute 3 (some .int) 1 0 0 [.ref (ts_ad g 164), ts_v p1] M (ts_Ri Q) := by
  intro h0
  refine ts_Con.of hl (by decide) (Nat.le_of_ble_eq_true rfl) ?_
  intro p e s m args below meth c C
  have H66 : ∀ (z0 : Int) (M : ts_M), wX12_minute_B66   Q z0 M → ts_V p l e (ts_rm 1 0 0) s m args below meth c g 3 0 0 (MQ below (ts_Q g (ts_Ri Q)) args s 0 0 (ts_A g)) 66 [] [ts_v z0] M := by
    intro  z0 M
    unfold wX12_minute_B66
    exact ts_ireti C (Nat.zero_le _) (Nat.zero_le _) dX12_minute_66
  have H41 : ∀ (y1 : Int) (z0 : Int) (M : ts_M), wX12_minute_B41   Q y1 z0 M → ts_V p l e (ts_rm 1 0 0) s m args below meth c g 3 0 0 (MQ below (ts_Q g (ts_Ri Q)) args s 0 0 (ts_A g)) 41 [(0, .ref (ts_ad g 164)), (1, ts_v y1)] [ts_v z0] M := by
    intro  y1 z0 M
    unfold wX12_minute_B41
    refine ts_istore_n C dX12_minute_41 rfl (by decide) (lv' := fun x4 => [(2, ts_v x4), (0, .ref (ts_ad g 164)), (1, ts_v y1)]) (fun _ => rfl) (fun x4 => ?_)
    refine ts_iload_n C dX12_minute_42 rfl 0 rfl ?_
    refine ts_cm0_eq C rfl 61 dX12_minute_43 rfl ?_ ?_
    · refine ts_aload_n C dX12_minute_61 rfl 1 rfl ?_
      refine ts_iconst C dX12_minute_62 1 rfl ?_
      refine ts_callVi C [ts_v 1] (mX12_fails hl) kX12_fails q_2037 (by decide) shX12 rfl rfl rfl (Nat.le_of_ble_eq_true rfl) ⟨Nat.le_of_ble_eq_true rfl, Nat.le_of_ble_eq_true rfl⟩ ⟨Nat.le_of_ble_eq_true rfl, Nat.le_of_ble_eq_true rfl⟩ dX12_minute_63 (fun r6 M5 => ?_)
      exact ts_sub [] rfl (H66 _ _)
    · refine ts_aload_n C dX12_minute_46 rfl 1 rfl ?_
      refine tgX12_1 C q_1959 dX12_minute_47 ?_
      refine ts_bipush C dX12_minute_50 62 tb_62 ?_
      refine ts_iload_n C dX12_minute_52 rfl 2 rfl ?_
      refine ts_bipush C dX12_minute_53 20 tb_20 ?_
      refine ts_iremc C (by rw [tw_20]; decide) dX12_minute_55 ?_
      refine ts_iadd C dX12_minute_56 ?_
      refine ts_iald C (by decide) shG165 dX12_minute_57 ?_
      refine ts_goto C 66 dX12_minute_58 rfl ?_
      exact ts_sub [] rfl (H66 _ _)
  have H40 : ∀ (y1 : Int) (M : ts_M), wX12_minute_B40   Q y1 M → ts_V p l e (ts_rm 1 0 0) s m args below meth c g 3 0 0 (MQ below (ts_Q g (ts_Ri Q)) args s 0 0 (ts_A g)) 40 [(0, .ref (ts_ad g 164)), (1, ts_v y1)] [] M := by
    intro  y1 M
    unfold wX12_minute_B40
    refine ts_iconst C dX12_minute_40 0 rfl ?_
    exact ts_sub [0, 1] rfl (H41 _ _ _)
  revert h0
  unfold wX12_minute
  have hl0 : lv_args 0 [.ref (ts_ad g 164), ts_v p1] = [(0, .ref (ts_ad g 164)), (1, ts_v p1)] := rfl
  rw [hl0]
  refine ts_aload_n C dX12_minute_0 rfl 0 rfl ?_
  refine ts_iconst C dX12_minute_1 0 rfl ?_
  refine tpX12_0 C q_1958 dX12_minute_2 (fun M1 => ?_)
  refine ts_iload_n C dX12_minute_5 rfl 1 rfl ?_
  refine ts_iconst C dX12_minute_6 0 rfl ?_
  refine ts_aload_n C dX12_minute_7 rfl 0 rfl ?_
  refine tgX12_1 C q_1959 dX12_minute_8 ?_
  refine ts_bipush C dX12_minute_11 6 tb_6 ?_
  refine ts_ialdc C (by decide) shG165 tw_6 (by decide) dX12_minute_13 ?_
  refine ts_iconst C dX12_minute_14 1 rfl ?_
  refine ts_isub C dX12_minute_15 ?_
  refine ts_callSi C [ts_v p1, ts_v 0, ts_v ((M1.1 165 6) - 1)] (mX12_isBetween hl) kX12_isBetween q_2034 rfl rfl (Nat.le_of_ble_eq_true rfl) ⟨Nat.le_of_ble_eq_true rfl, Nat.le_of_ble_eq_true rfl⟩ ⟨Nat.le_of_ble_eq_true rfl, Nat.le_of_ble_eq_true rfl⟩ dX12_minute_16 (fun r3 M2 => ?_)
  refine ts_cm0_eq C rfl 40 dX12_minute_19 rfl ?_ ?_
  · exact ts_sub [0, 1] rfl (H40 _ _)
  · refine ts_iload_n C dX12_minute_22 rfl 1 rfl ?_
    refine ts_aload_n C dX12_minute_23 rfl 0 rfl ?_
    refine tgX12_1 C q_1959 dX12_minute_24 ?_
    refine ts_bipush C dX12_minute_27 6 tb_6 ?_
    refine ts_ialdc C (by decide) shG165 tw_6 (by decide) dX12_minute_29 ?_
    refine ts_bipush C dX12_minute_30 20 tb_20 ?_
    refine ts_isub C dX12_minute_32 ?_
    refine ts_cmp_lt C rfl rfl 40 dX12_minute_33 rfl ?_ ?_
    · exact ts_sub [0, 1] rfl (H40 _ _)
    · refine ts_iconst C dX12_minute_36 1 rfl ?_
      refine ts_goto C 41 dX12_minute_37 rfl ?_
      exact ts_sub [0, 1] rfl (H41 _ _ _)
def wX12_sittings (Q : Int → ts_M → Prop) (M : ts_M) : Prop :=
  (wX12_told 5 (fun r2 M1 => Q r2 M1) M)
set_option maxRecDepth 100000 in
set_option maxHeartbeats 4000000 in
theorem mX12_sittings {l : Launch} {g : ts_W} (hl : l.stackTraces = false) {Q : Int → ts_M → Prop} {M : ts_M} : wX12_sittings Q M → ts_Con l g yX12_sittings cX12_sittings 1 (some .int) 1 0 0 [.ref (ts_ad g 164)] M (ts_Ri Q) := by
  intro h0
  refine ts_Con.of hl (by decide) (Nat.le_of_ble_eq_true rfl) ?_
  intro p e s m args below meth c C
  revert h0
  unfold wX12_sittings
  have hl0 : lv_args 0 [.ref (ts_ad g 164)] = [(0, .ref (ts_ad g 164))] := rfl
  rw [hl0]
  refine ts_aload_n C dX12_sittings_0 rfl 0 rfl ?_
  refine ts_iconst C dX12_sittings_1 5 rfl ?_
  refine ts_callVi C [ts_v 5] (mX12_told hl) kX12_told q_2290 (by decide) shX12 rfl rfl rfl (Nat.le_of_ble_eq_true rfl) ⟨Nat.le_of_ble_eq_true rfl, Nat.le_of_ble_eq_true rfl⟩ ⟨Nat.le_of_ble_eq_true rfl, Nat.le_of_ble_eq_true rfl⟩ dX12_sittings_2 (fun r2 M1 => ?_)
  exact ts_ireti C (Nat.zero_le _) (Nat.zero_le _) dX12_sittings_5
def wX12_sugarTotal_L9   (Q : Int → ts_M → Prop) (k9 : Int → Int → ts_M → Prop) (y1 : Int) (y2 : Int) (M : ts_M) : Prop :=
  ((ts_w (M.1 165 0) ≤ ts_w y2 → Q y1 M) ∧ (¬ (ts_w (M.1 165 0) ≤ ts_w y2) → (wX12_spoon y2 2 (fun r5 M4 => (∀ x6 : Int, x6 = y1 + r5 → (∀ x7 : Int, x7 = y2 + 1 → k9 x6 x7 M4))) M)))
def wX12_sugarTotal (Q : Int → ts_M → Prop) (M : ts_M) : Prop :=
  (∀ M1, M1 = ts_si M 164 0 0 → (∀ x2 : Int, x2 = 0 → (∀ x3 : Int, x3 = 0 → ∃ n, ts_lp2 (wX12_sugarTotal_L9 Q) n x2 x3 M1)))
set_option maxRecDepth 100000 in
set_option maxHeartbeats 4000000 in
theorem mX12_sugarTotal {l : Launch} {g : ts_W} (hl : l.stackTraces = false) {Q : Int → ts_M → Prop} {M : ts_M} : wX12_sugarTotal Q M → ts_Con l g yX12_sugarTotal cX12_sugarTotal 3 (some .int) 1 0 0 [.ref (ts_ad g 164)] M (ts_Ri Q) := by
  intro h0
  refine ts_Con.of hl (by decide) (Nat.le_of_ble_eq_true rfl) ?_
  intro p e s m args below meth c C
  have H9 : ∀ (n : Nat) (y1 : Int) (y2 : Int) (M : ts_M), ts_lp2 (wX12_sugarTotal_L9   Q) n y1 y2 M → ts_V p l e (ts_rm 1 0 0) s m args below meth c g 3 0 0 (MQ below (ts_Q g (ts_Ri Q)) args s 0 0 (ts_A g)) 9 [(0, .ref (ts_ad g 164)), (1, ts_v y1), (2, ts_v y2)] [] M := by
    refine ts_lpr2 (V := fun (y1 : Int) (y2 : Int) (M : ts_M) => ts_V p l e (ts_rm 1 0 0) s m args below meth c g 3 0 0 (MQ below (ts_Q g (ts_Ri Q)) args s 0 0 (ts_A g)) 9 [(0, .ref (ts_ad g 164)), (1, ts_v y1), (2, ts_v y2)] [] M) ?_
    intro k9 hk9 y1 y2 M
    unfold wX12_sugarTotal_L9
    refine ts_iload_n C dX12_sugarTotal_9 rfl 2 rfl ?_
    refine ts_aload_n C dX12_sugarTotal_10 rfl 0 rfl ?_
    refine tgX12_1 C q_1959 dX12_sugarTotal_11 ?_
    refine ts_iconst C dX12_sugarTotal_14 0 rfl ?_
    refine ts_ialdc C (by decide) shG165 tw_0 (by decide) dX12_sugarTotal_15 ?_
    refine ts_cmp_ge C rfl rfl 34 dX12_sugarTotal_16 rfl ?_ ?_
    · refine ts_iload_n C dX12_sugarTotal_34 rfl 1 rfl ?_
      exact ts_ireti C (Nat.zero_le _) (Nat.zero_le _) dX12_sugarTotal_35
    · refine ts_iload_n C dX12_sugarTotal_19 rfl 1 rfl ?_
      refine ts_aload_n C dX12_sugarTotal_20 rfl 0 rfl ?_
      refine ts_iload_n C dX12_sugarTotal_21 rfl 2 rfl ?_
      refine ts_iconst C dX12_sugarTotal_22 2 rfl ?_
      refine ts_callVi C [ts_v y2, ts_v 2] (mX12_spoon hl) kX12_spoon q_2149 (by decide) shX12 rfl rfl rfl (Nat.le_of_ble_eq_true rfl) ⟨Nat.le_of_ble_eq_true rfl, Nat.le_of_ble_eq_true rfl⟩ ⟨Nat.le_of_ble_eq_true rfl, Nat.le_of_ble_eq_true rfl⟩ dX12_sugarTotal_23 (fun r5 M4 => ?_)
      refine ts_iadd C dX12_sugarTotal_26 ?_
      refine ts_istore_n C dX12_sugarTotal_27 rfl (by decide) (lv' := fun x6 => [(1, ts_v x6), (0, .ref (ts_ad g 164)), (2, ts_v y2)]) (fun _ => rfl) (fun x6 => ?_)
      refine ts_iinc C dX12_sugarTotal_28 2 rfl (by decide) (lv' := fun x7 => [(2, ts_v x7), (1, ts_v x6), (0, .ref (ts_ad g 164))]) (fun _ => rfl) (fun x7 => ?_)
      refine ts_goto C 9 dX12_sugarTotal_31 rfl ?_
      exact ts_sub [2, 1, 0] rfl (hk9 _ _ _)
  revert h0
  unfold wX12_sugarTotal
  have hl0 : lv_args 0 [.ref (ts_ad g 164)] = [(0, .ref (ts_ad g 164))] := rfl
  rw [hl0]
  refine ts_aload_n C dX12_sugarTotal_0 rfl 0 rfl ?_
  refine ts_iconst C dX12_sugarTotal_1 0 rfl ?_
  refine tpX12_0 C q_1958 dX12_sugarTotal_2 (fun M1 => ?_)
  refine ts_iconst C dX12_sugarTotal_5 0 rfl ?_
  refine ts_istore_n C dX12_sugarTotal_6 rfl (by decide) (lv' := fun x2 => [(1, ts_v x2), (0, .ref (ts_ad g 164))]) (fun _ => rfl) (fun x2 => ?_)
  refine ts_iconst C dX12_sugarTotal_7 0 rfl ?_
  refine ts_istore_n C dX12_sugarTotal_8 rfl (by decide) (lv' := fun x3 => [(2, ts_v x3), (1, ts_v x2), (0, .ref (ts_ad g 164))]) (fun _ => rfl) (fun x3 => ?_)
  rintro ⟨n, hn⟩
  exact ts_sub [2, 1, 0] rfl (H9 n _ _ _) hn
def wX12_sugarByAccounts (Q : Int → ts_M → Prop) (M : ts_M) : Prop :=
  (∀ M1, M1 = ts_si M 164 0 0 → Q (((5 * (M1.1 165 0)) + (M1.1 165 9)) - (M1.1 165 10)) M1)
set_option maxRecDepth 100000 in
set_option maxHeartbeats 4000000 in
theorem mX12_sugarByAccounts {l : Launch} {g : ts_W} (hl : l.stackTraces = false) {Q : Int → ts_M → Prop} {M : ts_M} : wX12_sugarByAccounts Q M → ts_Con l g yX12_sugarByAccounts cX12_sugarByAccounts 1 (some .int) 0 0 0 [.ref (ts_ad g 164)] M (ts_Ri Q) := by
  intro h0
  refine ts_Con.of hl (by decide) (Nat.le_of_ble_eq_true rfl) ?_
  intro p e s m args below meth c C
  revert h0
  unfold wX12_sugarByAccounts
  have hl0 : lv_args 0 [.ref (ts_ad g 164)] = [(0, .ref (ts_ad g 164))] := rfl
  rw [hl0]
  refine ts_aload_n C dX12_sugarByAccounts_0 rfl 0 rfl ?_
  refine ts_iconst C dX12_sugarByAccounts_1 0 rfl ?_
  refine tpX12_0 C q_1958 dX12_sugarByAccounts_2 (fun M1 => ?_)
  refine ts_iconst C dX12_sugarByAccounts_5 5 rfl ?_
  refine ts_aload_n C dX12_sugarByAccounts_6 rfl 0 rfl ?_
  refine tgX12_1 C q_1959 dX12_sugarByAccounts_7 ?_
  refine ts_iconst C dX12_sugarByAccounts_10 0 rfl ?_
  refine ts_ialdc C (by decide) shG165 tw_0 (by decide) dX12_sugarByAccounts_11 ?_
  refine ts_imul C dX12_sugarByAccounts_12 ?_
  refine ts_aload_n C dX12_sugarByAccounts_13 rfl 0 rfl ?_
  refine tgX12_1 C q_1959 dX12_sugarByAccounts_14 ?_
  refine ts_bipush C dX12_sugarByAccounts_17 9 tb_9 ?_
  refine ts_ialdc C (by decide) shG165 tw_9 (by decide) dX12_sugarByAccounts_19 ?_
  refine ts_iadd C dX12_sugarByAccounts_20 ?_
  refine ts_aload_n C dX12_sugarByAccounts_21 rfl 0 rfl ?_
  refine tgX12_1 C q_1959 dX12_sugarByAccounts_22 ?_
  refine ts_bipush C dX12_sugarByAccounts_25 10 tb_10 ?_
  refine ts_ialdc C (by decide) shG165 tw_10 (by decide) dX12_sugarByAccounts_27 ?_
  refine ts_isub C dX12_sugarByAccounts_28 ?_
  exact ts_ireti C (Nat.zero_le _) (Nat.zero_le _) dX12_sugarByAccounts_29
def wX12_meanStance_L25   (Q : UInt64 → ts_M → Prop) (k25 : Int → Int → ts_M → Prop) (y1 : Int) (y2 : Int) (M : ts_M) : Prop :=
  ((ts_w (M.1 165 0) ≤ ts_w y2 → (vf_n64 (FP.ddiv (FP.i2d (ts_I y1)) (FP.i2d (ts_I (M.1 165 0)))) ∧ Q (FP.ddiv (FP.i2d (ts_I y1)) (FP.i2d (ts_I (M.1 165 0)))) M)) ∧ (¬ (ts_w (M.1 165 0) ≤ ts_w y2) → (wX12_spoon y2 1 (fun r5 M4 => (∀ x6 : Int, x6 = y1 + r5 → (∀ x7 : Int, x7 = y2 + 1 → k25 x6 x7 M4))) M)))
def wX12_meanStance (Q : UInt64 → ts_M → Prop) (M : ts_M) : Prop :=
  (∀ M1, M1 = ts_si M 164 0 0 → ((¬ (ts_w (M1.1 165 0) = 0) → (∀ x2 : Int, x2 = 0 → (∀ x3 : Int, x3 = 0 → ∃ n, ts_lp2 (wX12_meanStance_L25 Q) n x2 x3 M1))) ∧ (ts_w (M1.1 165 0) = 0 → (wX12_fails 1 (fun r9 M8 => Q (FP.i2d (ts_I r9)) M8) M1))))
set_option maxRecDepth 100000 in
set_option maxHeartbeats 4000000 in
theorem mX12_meanStance {l : Launch} {g : ts_W} (hl : l.stackTraces = false) {Q : UInt64 → ts_M → Prop} {M : ts_M} : wX12_meanStance Q M → ts_Con l g yX12_meanStance cX12_meanStance 3 (some .double) 1 0 0 [.ref (ts_ad g 164)] M (ts_Rd Q) := by
  intro h0
  refine ts_Con.of hl (by decide) (Nat.le_of_ble_eq_true rfl) ?_
  intro p e s m args below meth c C
  have H25 : ∀ (n : Nat) (y1 : Int) (y2 : Int) (M : ts_M), ts_lp2 (wX12_meanStance_L25   Q) n y1 y2 M → ts_V p l e (ts_rm 1 0 0) s m args below meth c g 3 0 0 (MQ below (ts_Q g (ts_Rd Q)) args s 0 0 (ts_A g)) 25 [(0, .ref (ts_ad g 164)), (1, ts_v y1), (2, ts_v y2)] [] M := by
    refine ts_lpr2 (V := fun (y1 : Int) (y2 : Int) (M : ts_M) => ts_V p l e (ts_rm 1 0 0) s m args below meth c g 3 0 0 (MQ below (ts_Q g (ts_Rd Q)) args s 0 0 (ts_A g)) 25 [(0, .ref (ts_ad g 164)), (1, ts_v y1), (2, ts_v y2)] [] M) ?_
    intro k25 hk25 y1 y2 M
    unfold wX12_meanStance_L25
    refine ts_iload_n C dX12_meanStance_25 rfl 2 rfl ?_
    refine ts_aload_n C dX12_meanStance_26 rfl 0 rfl ?_
    refine tgX12_1 C q_1959 dX12_meanStance_27 ?_
    refine ts_iconst C dX12_meanStance_30 0 rfl ?_
    refine ts_ialdc C (by decide) shG165 tw_0 (by decide) dX12_meanStance_31 ?_
    refine ts_cmp_ge C rfl rfl 50 dX12_meanStance_32 rfl ?_ ?_
    · refine ts_iload_n C dX12_meanStance_50 rfl 1 rfl ?_
      refine ts_i2d C dX12_meanStance_51 ?_
      refine ts_aload_n C dX12_meanStance_52 rfl 0 rfl ?_
      refine tgX12_1 C q_1959 dX12_meanStance_53 ?_
      refine ts_iconst C dX12_meanStance_56 0 rfl ?_
      refine ts_ialdc C (by decide) shG165 tw_0 (by decide) dX12_meanStance_57 ?_
      refine ts_i2d C dX12_meanStance_58 ?_
      refine ts_ddiv C dX12_meanStance_59 ?_
      exact ts_dreti C (Nat.zero_le _) (Nat.zero_le _) dX12_meanStance_60
    · refine ts_iload_n C dX12_meanStance_35 rfl 1 rfl ?_
      refine ts_aload_n C dX12_meanStance_36 rfl 0 rfl ?_
      refine ts_iload_n C dX12_meanStance_37 rfl 2 rfl ?_
      refine ts_iconst C dX12_meanStance_38 1 rfl ?_
      refine ts_callVi C [ts_v y2, ts_v 1] (mX12_spoon hl) kX12_spoon q_2149 (by decide) shX12 rfl rfl rfl (Nat.le_of_ble_eq_true rfl) ⟨Nat.le_of_ble_eq_true rfl, Nat.le_of_ble_eq_true rfl⟩ ⟨Nat.le_of_ble_eq_true rfl, Nat.le_of_ble_eq_true rfl⟩ dX12_meanStance_39 (fun r5 M4 => ?_)
      refine ts_iadd C dX12_meanStance_42 ?_
      refine ts_istore_n C dX12_meanStance_43 rfl (by decide) (lv' := fun x6 => [(1, ts_v x6), (0, .ref (ts_ad g 164)), (2, ts_v y2)]) (fun _ => rfl) (fun x6 => ?_)
      refine ts_iinc C dX12_meanStance_44 2 rfl (by decide) (lv' := fun x7 => [(2, ts_v x7), (1, ts_v x6), (0, .ref (ts_ad g 164))]) (fun _ => rfl) (fun x7 => ?_)
      refine ts_goto C 25 dX12_meanStance_47 rfl ?_
      exact ts_sub [2, 1, 0] rfl (hk25 _ _ _)
  revert h0
  unfold wX12_meanStance
  have hl0 : lv_args 0 [.ref (ts_ad g 164)] = [(0, .ref (ts_ad g 164))] := rfl
  rw [hl0]
  refine ts_aload_n C dX12_meanStance_0 rfl 0 rfl ?_
  refine ts_iconst C dX12_meanStance_1 0 rfl ?_
  refine tpX12_0 C q_1958 dX12_meanStance_2 (fun M1 => ?_)
  refine ts_aload_n C dX12_meanStance_5 rfl 0 rfl ?_
  refine tgX12_1 C q_1959 dX12_meanStance_6 ?_
  refine ts_iconst C dX12_meanStance_9 0 rfl ?_
  refine ts_ialdc C (by decide) shG165 tw_0 (by decide) dX12_meanStance_10 ?_
  refine ts_cm0_ne C rfl 21 dX12_meanStance_11 rfl ?_ ?_
  · refine ts_iconst C dX12_meanStance_21 0 rfl ?_
    refine ts_istore_n C dX12_meanStance_22 rfl (by decide) (lv' := fun x2 => [(1, ts_v x2), (0, .ref (ts_ad g 164))]) (fun _ => rfl) (fun x2 => ?_)
    refine ts_iconst C dX12_meanStance_23 0 rfl ?_
    refine ts_istore_n C dX12_meanStance_24 rfl (by decide) (lv' := fun x3 => [(2, ts_v x3), (1, ts_v x2), (0, .ref (ts_ad g 164))]) (fun _ => rfl) (fun x3 => ?_)
    rintro ⟨n, hn⟩
    exact ts_sub [2, 1, 0] rfl (H25 n _ _ _) hn
  · refine ts_aload_n C dX12_meanStance_14 rfl 0 rfl ?_
    refine ts_iconst C dX12_meanStance_15 1 rfl ?_
    refine ts_callVi C [ts_v 1] (mX12_fails hl) kX12_fails q_2037 (by decide) shX12 rfl rfl rfl (Nat.le_of_ble_eq_true rfl) ⟨Nat.le_of_ble_eq_true rfl, Nat.le_of_ble_eq_true rfl⟩ ⟨Nat.le_of_ble_eq_true rfl, Nat.le_of_ble_eq_true rfl⟩ dX12_meanStance_16 (fun r9 M8 => ?_)
    refine ts_i2d C dX12_meanStance_19 ?_
    exact ts_dreti C (Nat.zero_le _) (Nat.zero_le _) dX12_meanStance_20
def wX12_adoptedShare_B41   (Q : UInt32 → ts_M → Prop)  (z0 : UInt32) (M : ts_M) : Prop :=
  Q z0 M
def wX12_adoptedShare (Q : UInt32 → ts_M → Prop) (M : ts_M) : Prop :=
  (∀ M1, M1 = ts_si M 164 0 0 → ((¬ (ts_w (M1.1 165 7) = 0) → (vf_n32 (FP.fdiv (FP.i2f (ts_I (M1.1 165 8))) (FP.i2f (ts_I (M1.1 165 7)))) ∧ wX12_adoptedShare_B41 Q (FP.fdiv (FP.i2f (ts_I (M1.1 165 8))) (FP.i2f (ts_I (M1.1 165 7)))) M1)) ∧ (ts_w (M1.1 165 7) = 0 → (wX12_fails 1 (fun r3 M2 => wX12_adoptedShare_B41 Q (FP.i2f (ts_I r3)) M2) M1))))
set_option maxRecDepth 100000 in
set_option maxHeartbeats 4000000 in
theorem mX12_adoptedShare {l : Launch} {g : ts_W} (hl : l.stackTraces = false) {Q : UInt32 → ts_M → Prop} {M : ts_M} : wX12_adoptedShare Q M → ts_Con l g yX12_adoptedShare cX12_adoptedShare 1 (some .float) 1 0 0 [.ref (ts_ad g 164)] M (ts_Rf Q) := by
  intro h0
  refine ts_Con.of hl (by decide) (Nat.le_of_ble_eq_true rfl) ?_
  intro p e s m args below meth c C
  have H41 : ∀ (z0 : UInt32) (M : ts_M), wX12_adoptedShare_B41   Q z0 M → ts_V p l e (ts_rm 1 0 0) s m args below meth c g 1 0 0 (MQ below (ts_Q g (ts_Rf Q)) args s 0 0 (ts_A g)) 41 [] [.float z0] M := by
    intro  z0 M
    unfold wX12_adoptedShare_B41
    exact ts_freti C (Nat.zero_le _) (Nat.zero_le _) dX12_adoptedShare_41
  revert h0
  unfold wX12_adoptedShare
  have hl0 : lv_args 0 [.ref (ts_ad g 164)] = [(0, .ref (ts_ad g 164))] := rfl
  rw [hl0]
  refine ts_aload_n C dX12_adoptedShare_0 rfl 0 rfl ?_
  refine ts_iconst C dX12_adoptedShare_1 0 rfl ?_
  refine tpX12_0 C q_1958 dX12_adoptedShare_2 (fun M1 => ?_)
  refine ts_aload_n C dX12_adoptedShare_5 rfl 0 rfl ?_
  refine tgX12_1 C q_1959 dX12_adoptedShare_6 ?_
  refine ts_bipush C dX12_adoptedShare_9 7 tb_7 ?_
  refine ts_ialdc C (by decide) shG165 tw_7 (by decide) dX12_adoptedShare_11 ?_
  refine ts_cm0_ne C rfl 24 dX12_adoptedShare_12 rfl ?_ ?_
  · refine ts_aload_n C dX12_adoptedShare_24 rfl 0 rfl ?_
    refine tgX12_1 C q_1959 dX12_adoptedShare_25 ?_
    refine ts_bipush C dX12_adoptedShare_28 8 tb_8 ?_
    refine ts_ialdc C (by decide) shG165 tw_8 (by decide) dX12_adoptedShare_30 ?_
    refine ts_i2f C dX12_adoptedShare_31 ?_
    refine ts_aload_n C dX12_adoptedShare_32 rfl 0 rfl ?_
    refine tgX12_1 C q_1959 dX12_adoptedShare_33 ?_
    refine ts_bipush C dX12_adoptedShare_36 7 tb_7 ?_
    refine ts_ialdc C (by decide) shG165 tw_7 (by decide) dX12_adoptedShare_38 ?_
    refine ts_i2f C dX12_adoptedShare_39 ?_
    refine ts_fdiv C dX12_adoptedShare_40 ?_
    exact ts_sub [] rfl (H41 _ _)
  · refine ts_aload_n C dX12_adoptedShare_15 rfl 0 rfl ?_
    refine ts_iconst C dX12_adoptedShare_16 1 rfl ?_
    refine ts_callVi C [ts_v 1] (mX12_fails hl) kX12_fails q_2037 (by decide) shX12 rfl rfl rfl (Nat.le_of_ble_eq_true rfl) ⟨Nat.le_of_ble_eq_true rfl, Nat.le_of_ble_eq_true rfl⟩ ⟨Nat.le_of_ble_eq_true rfl, Nat.le_of_ble_eq_true rfl⟩ dX12_adoptedShare_17 (fun r3 M2 => ?_)
    refine ts_i2f C dX12_adoptedShare_20 ?_
    refine ts_goto C 41 dX12_adoptedShare_21 rfl ?_
    exact ts_sub [] rfl (H41 _ _)
def wX12_isConsistent_B16   (Q : Int → ts_M → Prop)  (z0 : Int) (M : ts_M) : Prop :=
  ((ts_w z0 = 0 ∨ ts_w z0 = 1) ∧ Q z0 M)
def wX12_isConsistent (Q : Int → ts_M → Prop) (M : ts_M) : Prop :=
  (wX12_sugarTotal  (fun r2 M1 => (wX12_sugarByAccounts  (fun r4 M3 => ((¬ (ts_w r2 = ts_w r4) → wX12_isConsistent_B16 Q 0 M3) ∧ (ts_w r2 = ts_w r4 → wX12_isConsistent_B16 Q 1 M3))) M1)) M)
set_option maxRecDepth 100000 in
set_option maxHeartbeats 4000000 in
theorem mX12_isConsistent {l : Launch} {g : ts_W} (hl : l.stackTraces = false) {Q : Int → ts_M → Prop} {M : ts_M} : wX12_isConsistent Q M → ts_Con l g yX12_isConsistent cX12_isConsistent 1 (some .boolean) 2 0 0 [.ref (ts_ad g 164)] M (ts_Ri Q) := by
  intro h0
  refine ts_Con.of hl (by decide) (Nat.le_of_ble_eq_true rfl) ?_
  intro p e s m args below meth c C
  have H16 : ∀ (z0 : Int) (M : ts_M), wX12_isConsistent_B16   Q z0 M → ts_V p l e (ts_rm 2 0 0) s m args below meth c g 1 0 0 (MQ below (ts_Q g (ts_Ri Q)) args s 0 0 (ts_A g)) 16 [] [ts_v z0] M := by
    intro  z0 M
    unfold wX12_isConsistent_B16
    exact ts_zreti C (Nat.zero_le _) (Nat.zero_le _) dX12_isConsistent_16
  revert h0
  unfold wX12_isConsistent
  have hl0 : lv_args 0 [.ref (ts_ad g 164)] = [(0, .ref (ts_ad g 164))] := rfl
  rw [hl0]
  refine ts_aload_n C dX12_isConsistent_0 rfl 0 rfl ?_
  refine ts_callVi C [] (mX12_sugarTotal hl) kX12_sugarTotal q_2479 (by decide) shX12 rfl rfl rfl (Nat.le_of_ble_eq_true rfl) ⟨Nat.le_of_ble_eq_true rfl, Nat.le_of_ble_eq_true rfl⟩ ⟨Nat.le_of_ble_eq_true rfl, Nat.le_of_ble_eq_true rfl⟩ dX12_isConsistent_1 (fun r2 M1 => ?_)
  refine ts_aload_n C dX12_isConsistent_4 rfl 0 rfl ?_
  refine ts_callVi C [] (mX12_sugarByAccounts hl) kX12_sugarByAccounts q_2480 (by decide) shX12 rfl rfl rfl (Nat.le_of_ble_eq_true rfl) ⟨Nat.le_of_ble_eq_true rfl, Nat.le_of_ble_eq_true rfl⟩ ⟨Nat.le_of_ble_eq_true rfl, Nat.le_of_ble_eq_true rfl⟩ dX12_isConsistent_5 (fun r4 M3 => ?_)
  refine ts_cmp_ne C rfl rfl 15 dX12_isConsistent_8 rfl ?_ ?_
  · refine ts_iconst C dX12_isConsistent_15 0 rfl ?_
    exact ts_sub [] rfl (H16 _ _)
  · refine ts_iconst C dX12_isConsistent_11 1 rfl ?_
    refine ts_goto C 16 dX12_isConsistent_12 rfl ?_
    exact ts_sub [] rfl (H16 _ _)
def wX12_writes (p1 : Int) (Q : ts_M → Prop) (M : ts_M) : Prop :=
  ((0 ≤ ts_w (M.1 164 12) ∧ ts_w (M.1 164 12) < ((80 : Nat) : Int)) ∧ ∀ M1, M1 = ts_si M 172 (ts_w (M.1 164 12)) (ts_nar .char (ts_i2c p1)) → (∀ M2, M2 = ts_si M1 164 12 ((M1.1 164 12) + 1) → Q M2))
set_option maxRecDepth 100000 in
set_option maxHeartbeats 4000000 in
theorem mX12_writes {l : Launch} {g : ts_W} (hl : l.stackTraces = false) {p1 : Int} {Q : ts_M → Prop} {M : ts_M} : wX12_writes p1 Q M → ts_Con l g yX12_writes cX12_writes 2 none 0 0 0 [.ref (ts_ad g 164), ts_v p1] M (ts_Rv Q) := by
  intro h0
  refine ts_Con.of hl (by decide) (Nat.le_of_ble_eq_true rfl) ?_
  intro p e s m args below meth c C
  revert h0
  unfold wX12_writes
  have hl0 : lv_args 0 [.ref (ts_ad g 164), ts_v p1] = [(0, .ref (ts_ad g 164)), (1, ts_v p1)] := rfl
  rw [hl0]
  refine ts_aload_n C dX12_writes_0 rfl 0 rfl ?_
  refine tgX12_11 C q_1969 dX12_writes_1 ?_
  refine ts_aload_n C dX12_writes_4 rfl 0 rfl ?_
  refine tgX12_12 C q_1970 dX12_writes_5 ?_
  refine ts_iload_n C dX12_writes_8 rfl 1 rfl ?_
  refine ts_i2c0 C dX12_writes_9 ?_
  refine ts_cast C (by decide) shG172 dX12_writes_10 (fun M1 => ?_)
  refine ts_aload_n C dX12_writes_11 rfl 0 rfl ?_
  refine ts_dup C dX12_writes_12 rfl ?_
  refine tgX12_12 C q_1970 dX12_writes_13 ?_
  refine ts_iconst C dX12_writes_16 1 rfl ?_
  refine ts_iadd C dX12_writes_17 ?_
  refine tpX12_12 C q_1970 dX12_writes_18 (fun M2 => ?_)
  exact ts_vreti C (Nat.zero_le _) (Nat.zero_le _) dX12_writes_21
def wX12_writesNumber_L42   (Q : ts_M → Prop) (k42 : Int → Int → ts_M → Prop) (y2 : Int) (y4 : Int) (M : ts_M) : Prop :=
  ((ts_w y4 ≤ 0 → Q M) ∧ (¬ (ts_w y4 ≤ 0) → (¬ ts_w y4 = 0 ∧ (wX12_writes (48 + (ts_rem (ts_div y2 y4) 10)) (fun M4 => (∀ x5 : Int, x5 = ts_div y4 10 → k42 y2 x5 M4)) M))))
def wX12_writesNumber_L23   (Q : ts_M → Prop) (k23 : Int → Int → ts_M → Prop) (y2 : Int) (y3 : Int) (M : ts_M) : Prop :=
  (¬ ts_w y3 = 0 ∧ ((ts_w (ts_div y2 y3) ≤ 9 → (∀ x3 : Int, x3 = y3 → ∃ n, ts_lp2 (wX12_writesNumber_L42 Q) n y2 x3 M)) ∧ (¬ (ts_w (ts_div y2 y3) ≤ 9) → (∀ x6 : Int, x6 = y3 * 10 → k23 y2 x6 M))))
def wX12_writesNumber_B20   (Q : ts_M → Prop)  (z0 : Int) (M : ts_M) : Prop :=
  (∀ x1 : Int, x1 = z0 → (∀ x2 : Int, x2 = 1 → ∃ n, ts_lp2 (wX12_writesNumber_L23 Q) n x1 x2 M))
def wX12_writesNumber_B10   (Q : ts_M → Prop)  (y1 : Int) (M : ts_M) : Prop :=
  ((0 ≤ ts_w y1 → wX12_writesNumber_B20 Q y1 M) ∧ (¬ (0 ≤ ts_w y1) → wX12_writesNumber_B20 Q (-y1) M))
def wX12_writesNumber (p1 : Int) (Q : ts_M → Prop) (M : ts_M) : Prop :=
  ((0 ≤ ts_w p1 → wX12_writesNumber_B10 Q p1 M) ∧ (¬ (0 ≤ ts_w p1) → (wX12_writes 45 (fun M7 => wX12_writesNumber_B10 Q p1 M7) M)))
set_option maxRecDepth 100000 in
set_option maxHeartbeats 4000000 in
theorem mX12_writesNumber {l : Launch} {g : ts_W} (hl : l.stackTraces = false) {p1 : Int} {Q : ts_M → Prop} {M : ts_M} : wX12_writesNumber p1 Q M → ts_Con l g yX12_writesNumber cX12_writesNumber 5 none 1 0 0 [.ref (ts_ad g 164), ts_v p1] M (ts_Rv Q) := by
  intro h0
  refine ts_Con.of hl (by decide) (Nat.le_of_ble_eq_true rfl) ?_
  intro p e s m args below meth c C
  have H42 : ∀ (n : Nat) (y2 : Int) (y4 : Int) (M : ts_M), ts_lp2 (wX12_writesNumber_L42   Q) n y2 y4 M → ts_V p l e (ts_rm 1 0 0) s m args below meth c g 5 0 0 (MQ below (ts_Q g (ts_Rv Q)) args s 0 0 (ts_A g)) 42 [(0, .ref (ts_ad g 164)), (2, ts_v y2), (4, ts_v y4)] [] M := by
    refine ts_lpr2 (V := fun (y2 : Int) (y4 : Int) (M : ts_M) => ts_V p l e (ts_rm 1 0 0) s m args below meth c g 5 0 0 (MQ below (ts_Q g (ts_Rv Q)) args s 0 0 (ts_A g)) 42 [(0, .ref (ts_ad g 164)), (2, ts_v y2), (4, ts_v y4)] [] M) ?_
    intro k42 hk42 y2 y4 M
    unfold wX12_writesNumber_L42
    refine ts_iload C dX12_writesNumber_42 2 rfl ?_
    refine ts_cm0_le C rfl 71 dX12_writesNumber_44 rfl ?_ ?_
    · exact ts_vreti C (Nat.zero_le _) (Nat.zero_le _) dX12_writesNumber_71
    · refine ts_aload_n C dX12_writesNumber_47 rfl 0 rfl ?_
      refine ts_bipush C dX12_writesNumber_48 48 tb_48 ?_
      refine ts_iload_n C dX12_writesNumber_50 rfl 1 rfl ?_
      refine ts_iload C dX12_writesNumber_51 2 rfl ?_
      refine ts_idiv C dX12_writesNumber_53 ?_
      refine ts_bipush C dX12_writesNumber_54 10 tb_10 ?_
      refine ts_iremc C (by rw [tw_10]; decide) dX12_writesNumber_56 ?_
      refine ts_iadd C dX12_writesNumber_57 ?_
      refine ts_callVv C [ts_v (48 + (ts_rem (ts_div y2 y4) 10))] (mX12_writes hl) kX12_writes q_2485 (by decide) shX12 rfl rfl rfl (Nat.le_of_ble_eq_true rfl) ⟨Nat.le_of_ble_eq_true rfl, Nat.le_of_ble_eq_true rfl⟩ ⟨Nat.le_of_ble_eq_true rfl, Nat.le_of_ble_eq_true rfl⟩ dX12_writesNumber_58 (fun M4 => ?_)
      refine ts_iload C dX12_writesNumber_61 2 rfl ?_
      refine ts_bipush C dX12_writesNumber_63 10 tb_10 ?_
      refine ts_idivc C (by rw [tw_10]; decide) dX12_writesNumber_65 ?_
      refine ts_istore C dX12_writesNumber_66 (by decide) (lv' := fun x5 => [(4, ts_v x5), (0, .ref (ts_ad g 164)), (2, ts_v y2)]) (fun _ => rfl) (fun x5 => ?_)
      refine ts_goto C 42 dX12_writesNumber_68 rfl ?_
      exact ts_sub [1, 2, 0] rfl (hk42 _ _ _)
  have H23 : ∀ (n : Nat) (y2 : Int) (y3 : Int) (M : ts_M), ts_lp2 (wX12_writesNumber_L23   Q) n y2 y3 M → ts_V p l e (ts_rm 1 0 0) s m args below meth c g 5 0 0 (MQ below (ts_Q g (ts_Rv Q)) args s 0 0 (ts_A g)) 23 [(0, .ref (ts_ad g 164)), (2, ts_v y2), (3, ts_v y3)] [] M := by
    refine ts_lpr2 (V := fun (y2 : Int) (y3 : Int) (M : ts_M) => ts_V p l e (ts_rm 1 0 0) s m args below meth c g 5 0 0 (MQ below (ts_Q g (ts_Rv Q)) args s 0 0 (ts_A g)) 23 [(0, .ref (ts_ad g 164)), (2, ts_v y2), (3, ts_v y3)] [] M) ?_
    intro k23 hk23 y2 y3 M
    unfold wX12_writesNumber_L23
    refine ts_iload_n C dX12_writesNumber_23 rfl 1 rfl ?_
    refine ts_iload_n C dX12_writesNumber_24 rfl 2 rfl ?_
    refine ts_idiv C dX12_writesNumber_25 ?_
    refine ts_bipush C dX12_writesNumber_26 9 tb_9 ?_
    refine ts_cmp_le C rfl tw_9 39 dX12_writesNumber_28 rfl ?_ ?_
    · refine ts_iload_n C dX12_writesNumber_39 rfl 2 rfl ?_
      refine ts_istore C dX12_writesNumber_40 (by decide) (lv' := fun x3 => [(4, ts_v x3), (0, .ref (ts_ad g 164)), (2, ts_v y2), (3, ts_v y3)]) (fun _ => rfl) (fun x3 => ?_)
      rintro ⟨n, hn⟩
      exact ts_sub [1, 2, 0] rfl (H42 n _ _ _) hn
    · refine ts_iload_n C dX12_writesNumber_31 rfl 2 rfl ?_
      refine ts_bipush C dX12_writesNumber_32 10 tb_10 ?_
      refine ts_imul C dX12_writesNumber_34 ?_
      refine ts_istore_n C dX12_writesNumber_35 rfl (by decide) (lv' := fun x6 => [(3, ts_v x6), (0, .ref (ts_ad g 164)), (2, ts_v y2)]) (fun _ => rfl) (fun x6 => ?_)
      refine ts_goto C 23 dX12_writesNumber_36 rfl ?_
      exact ts_sub [1, 2, 0] rfl (hk23 _ _ _)
  have H20 : ∀ (z0 : Int) (M : ts_M), wX12_writesNumber_B20   Q z0 M → ts_V p l e (ts_rm 1 0 0) s m args below meth c g 5 0 0 (MQ below (ts_Q g (ts_Rv Q)) args s 0 0 (ts_A g)) 20 [(0, .ref (ts_ad g 164))] [ts_v z0] M := by
    intro  z0 M
    unfold wX12_writesNumber_B20
    refine ts_istore_n C dX12_writesNumber_20 rfl (by decide) (lv' := fun x1 => [(2, ts_v x1), (0, .ref (ts_ad g 164))]) (fun _ => rfl) (fun x1 => ?_)
    refine ts_iconst C dX12_writesNumber_21 1 rfl ?_
    refine ts_istore_n C dX12_writesNumber_22 rfl (by decide) (lv' := fun x2 => [(3, ts_v x2), (2, ts_v x1), (0, .ref (ts_ad g 164))]) (fun _ => rfl) (fun x2 => ?_)
    rintro ⟨n, hn⟩
    exact ts_sub [2, 1, 0] rfl (H23 n _ _ _) hn
  have H10 : ∀ (y1 : Int) (M : ts_M), wX12_writesNumber_B10   Q y1 M → ts_V p l e (ts_rm 1 0 0) s m args below meth c g 5 0 0 (MQ below (ts_Q g (ts_Rv Q)) args s 0 0 (ts_A g)) 10 [(0, .ref (ts_ad g 164)), (1, ts_v y1)] [] M := by
    intro  y1 M
    unfold wX12_writesNumber_B10
    refine ts_iload_n C dX12_writesNumber_10 rfl 1 rfl ?_
    refine ts_cm0_ge C rfl 19 dX12_writesNumber_11 rfl ?_ ?_
    · refine ts_iload_n C dX12_writesNumber_19 rfl 1 rfl ?_
      exact ts_sub [0] rfl (H20 _ _)
    · refine ts_iload_n C dX12_writesNumber_14 rfl 1 rfl ?_
      refine ts_ineg C dX12_writesNumber_15 ?_
      refine ts_goto C 20 dX12_writesNumber_16 rfl ?_
      exact ts_sub [0] rfl (H20 _ _)
  revert h0
  unfold wX12_writesNumber
  have hl0 : lv_args 0 [.ref (ts_ad g 164), ts_v p1] = [(0, .ref (ts_ad g 164)), (1, ts_v p1)] := rfl
  rw [hl0]
  refine ts_iload_n C dX12_writesNumber_0 rfl 1 rfl ?_
  refine ts_cm0_ge C rfl 10 dX12_writesNumber_1 rfl ?_ ?_
  · exact ts_sub [0, 1] rfl (H10 _ _)
  · refine ts_aload_n C dX12_writesNumber_4 rfl 0 rfl ?_
    refine ts_bipush C dX12_writesNumber_5 45 tb_45 ?_
    refine ts_callVv C [ts_v 45] (mX12_writes hl) kX12_writes q_2485 (by decide) shX12 rfl rfl rfl (Nat.le_of_ble_eq_true rfl) ⟨Nat.le_of_ble_eq_true rfl, Nat.le_of_ble_eq_true rfl⟩ ⟨Nat.le_of_ble_eq_true rfl, Nat.le_of_ble_eq_true rfl⟩ dX12_writesNumber_7 (fun M7 => ?_)
    exact ts_sub [0, 1] rfl (H10 _ _)
def wX12_renderTable_B107   (Q : Int → ts_M → Prop)   (M : ts_M) : Prop :=
  Q (M.1 164 12) M
def wX12_renderTable_B85  (k12 : Int → ts_M → Prop) (Q : Int → ts_M → Prop)  (y1 : Int) (M : ts_M) : Prop :=
  (∀ x8 : Int, x8 = y1 + 1 → k12 x8 M)
def wX12_renderTable_B61  (k12 : Int → ts_M → Prop) (Q : Int → ts_M → Prop)  (y1 : Int) (M : ts_M) : Prop :=
  ((0 ≤ ts_w (55 + y1) ∧ ts_w (55 + y1) < ((146 : Nat) : Int)) ∧ ((¬ (ts_w (M.1 165 (ts_w (55 + y1))) = 1) → wX12_renderTable_B85 k12 Q y1 M) ∧ (ts_w (M.1 165 (ts_w (55 + y1))) = 1 → (wX12_writesNumber (M.1 165 61) (fun M9 => wX12_renderTable_B85 k12 Q y1 M9) M))))
def wX12_renderTable_L12   (Q : Int → ts_M → Prop) (k12 : Int → ts_M → Prop) (y1 : Int) (M : ts_M) : Prop :=
  ((ts_w (M.1 165 3) ≤ ts_w y1 → ((¬ (ts_w (M.1 165 4) = 1) → wX12_renderTable_B107 Q M) ∧ (ts_w (M.1 165 4) = 1 → (wX12_writes 33 (fun M4 => wX12_renderTable_B107 Q M4) M)))) ∧ (¬ (ts_w (M.1 165 3) ≤ ts_w y1) → ((0 ≤ ts_w (55 + y1) ∧ ts_w (55 + y1) < ((146 : Nat) : Int)) ∧ (wX12_signOf (M.1 165 (ts_w (55 + y1))) (fun r6 M5 => (wX12_writes r6 (fun M7 => ((0 ≤ ts_w (55 + y1) ∧ ts_w (55 + y1) < ((146 : Nat) : Int)) ∧ ((¬ (ts_w (M7.1 165 (ts_w (55 + y1))) = 0) → wX12_renderTable_B61 k12 Q y1 M7) ∧ (ts_w (M7.1 165 (ts_w (55 + y1))) = 0 → (wX12_writesNumber (M7.1 165 60) (fun M10 => wX12_renderTable_B61 k12 Q y1 M10) M7))))) M5)) M))))
def wX12_renderTable (Q : Int → ts_M → Prop) (M : ts_M) : Prop :=
  (∀ M1, M1 = ts_si M 164 0 0 → (∀ M2, M2 = ts_si M1 164 12 0 → (∀ x3 : Int, x3 = 0 → ∃ n, ts_lp1 (wX12_renderTable_L12 Q) n x3 M2)))
set_option maxRecDepth 100000 in
set_option maxHeartbeats 4000000 in
theorem mX12_renderTable {l : Launch} {g : ts_W} (hl : l.stackTraces = false) {Q : Int → ts_M → Prop} {M : ts_M} : wX12_renderTable Q M → ts_Con l g yX12_renderTable cX12_renderTable 2 (some .int) 2 0 0 [.ref (ts_ad g 164)] M (ts_Ri Q) := by
  intro h0
  refine ts_Con.of hl (by decide) (Nat.le_of_ble_eq_true rfl) ?_
  intro p e s m args below meth c C
  have H107 : ∀  (M : ts_M), wX12_renderTable_B107   Q  M → ts_V p l e (ts_rm 2 0 0) s m args below meth c g 2 0 0 (MQ below (ts_Q g (ts_Ri Q)) args s 0 0 (ts_A g)) 107 [(0, .ref (ts_ad g 164))] [] M := by
    intro   M
    unfold wX12_renderTable_B107
    refine ts_aload_n C dX12_renderTable_107 rfl 0 rfl ?_
    refine tgX12_12 C q_1970 dX12_renderTable_108 ?_
    exact ts_ireti C (Nat.zero_le _) (Nat.zero_le _) dX12_renderTable_111
  have H85 : ∀ (k12 : Int → ts_M → Prop) (hk12 : ∀ (y1 : Int) (M : ts_M), k12 y1 M → ts_V p l e (ts_rm 2 0 0) s m args below meth c g 2 0 0 (MQ below (ts_Q g (ts_Ri Q)) args s 0 0 (ts_A g)) 12 [(0, .ref (ts_ad g 164)), (1, ts_v y1)] [] M) (y1 : Int) (M : ts_M), wX12_renderTable_B85  k12 Q y1 M → ts_V p l e (ts_rm 2 0 0) s m args below meth c g 2 0 0 (MQ below (ts_Q g (ts_Ri Q)) args s 0 0 (ts_A g)) 85 [(0, .ref (ts_ad g 164)), (1, ts_v y1)] [] M := by
    intro k12 hk12 y1 M
    unfold wX12_renderTable_B85
    refine ts_iinc C dX12_renderTable_85 1 rfl (by decide) (lv' := fun x8 => [(1, ts_v x8), (0, .ref (ts_ad g 164))]) (fun _ => rfl) (fun x8 => ?_)
    refine ts_goto C 12 dX12_renderTable_88 rfl ?_
    exact ts_sub [1, 0] rfl (hk12 _ _)
  have H61 : ∀ (k12 : Int → ts_M → Prop) (hk12 : ∀ (y1 : Int) (M : ts_M), k12 y1 M → ts_V p l e (ts_rm 2 0 0) s m args below meth c g 2 0 0 (MQ below (ts_Q g (ts_Ri Q)) args s 0 0 (ts_A g)) 12 [(0, .ref (ts_ad g 164)), (1, ts_v y1)] [] M) (y1 : Int) (M : ts_M), wX12_renderTable_B61  k12 Q y1 M → ts_V p l e (ts_rm 2 0 0) s m args below meth c g 2 0 0 (MQ below (ts_Q g (ts_Ri Q)) args s 0 0 (ts_A g)) 61 [(0, .ref (ts_ad g 164)), (1, ts_v y1)] [] M := by
    intro k12 hk12 y1 M
    unfold wX12_renderTable_B61
    refine ts_aload_n C dX12_renderTable_61 rfl 0 rfl ?_
    refine tgX12_1 C q_1959 dX12_renderTable_62 ?_
    refine ts_bipush C dX12_renderTable_65 55 tb_55 ?_
    refine ts_iload_n C dX12_renderTable_67 rfl 1 rfl ?_
    refine ts_iadd C dX12_renderTable_68 ?_
    refine ts_iald C (by decide) shG165 dX12_renderTable_69 ?_
    refine ts_iconst C dX12_renderTable_70 1 rfl ?_
    refine ts_cmp_ne C rfl tw_1 85 dX12_renderTable_71 rfl ?_ ?_
    · exact ts_sub [0, 1] rfl (H85 k12 hk12 _ _)
    · refine ts_aload_n C dX12_renderTable_74 rfl 0 rfl ?_
      refine ts_aload_n C dX12_renderTable_75 rfl 0 rfl ?_
      refine tgX12_1 C q_1959 dX12_renderTable_76 ?_
      refine ts_bipush C dX12_renderTable_79 61 tb_61 ?_
      refine ts_ialdc C (by decide) shG165 tw_61 (by decide) dX12_renderTable_81 ?_
      refine ts_callVv C [ts_v (M.1 165 61)] (mX12_writesNumber hl) kX12_writesNumber q_2489 (by decide) shX12 rfl rfl rfl (Nat.le_of_ble_eq_true rfl) ⟨Nat.le_of_ble_eq_true rfl, Nat.le_of_ble_eq_true rfl⟩ ⟨Nat.le_of_ble_eq_true rfl, Nat.le_of_ble_eq_true rfl⟩ dX12_renderTable_82 (fun M9 => ?_)
      exact ts_sub [0, 1] rfl (H85 k12 hk12 _ _)
  have H12 : ∀ (n : Nat) (y1 : Int) (M : ts_M), ts_lp1 (wX12_renderTable_L12   Q) n y1 M → ts_V p l e (ts_rm 2 0 0) s m args below meth c g 2 0 0 (MQ below (ts_Q g (ts_Ri Q)) args s 0 0 (ts_A g)) 12 [(0, .ref (ts_ad g 164)), (1, ts_v y1)] [] M := by
    refine ts_lpr1 (V := fun (y1 : Int) (M : ts_M) => ts_V p l e (ts_rm 2 0 0) s m args below meth c g 2 0 0 (MQ below (ts_Q g (ts_Ri Q)) args s 0 0 (ts_A g)) 12 [(0, .ref (ts_ad g 164)), (1, ts_v y1)] [] M) ?_
    intro k12 hk12 y1 M
    unfold wX12_renderTable_L12
    refine ts_iload_n C dX12_renderTable_12 rfl 1 rfl ?_
    refine ts_aload_n C dX12_renderTable_13 rfl 0 rfl ?_
    refine tgX12_1 C q_1959 dX12_renderTable_14 ?_
    refine ts_iconst C dX12_renderTable_17 3 rfl ?_
    refine ts_ialdc C (by decide) shG165 tw_3 (by decide) dX12_renderTable_18 ?_
    refine ts_cmp_ge C rfl rfl 91 dX12_renderTable_19 rfl ?_ ?_
    · refine ts_aload_n C dX12_renderTable_91 rfl 0 rfl ?_
      refine tgX12_1 C q_1959 dX12_renderTable_92 ?_
      refine ts_iconst C dX12_renderTable_95 4 rfl ?_
      refine ts_ialdc C (by decide) shG165 tw_4 (by decide) dX12_renderTable_96 ?_
      refine ts_iconst C dX12_renderTable_97 1 rfl ?_
      refine ts_cmp_ne C rfl tw_1 107 dX12_renderTable_98 rfl ?_ ?_
      · exact ts_sub [0] rfl (H107 _)
      · refine ts_aload_n C dX12_renderTable_101 rfl 0 rfl ?_
        refine ts_bipush C dX12_renderTable_102 33 tb_33 ?_
        refine ts_callVv C [ts_v 33] (mX12_writes hl) kX12_writes q_2485 (by decide) shX12 rfl rfl rfl (Nat.le_of_ble_eq_true rfl) ⟨Nat.le_of_ble_eq_true rfl, Nat.le_of_ble_eq_true rfl⟩ ⟨Nat.le_of_ble_eq_true rfl, Nat.le_of_ble_eq_true rfl⟩ dX12_renderTable_104 (fun M4 => ?_)
        exact ts_sub [0] rfl (H107 _)
    · refine ts_aload_n C dX12_renderTable_22 rfl 0 rfl ?_
      refine ts_aload_n C dX12_renderTable_23 rfl 0 rfl ?_
      refine tgX12_1 C q_1959 dX12_renderTable_24 ?_
      refine ts_bipush C dX12_renderTable_27 55 tb_55 ?_
      refine ts_iload_n C dX12_renderTable_29 rfl 1 rfl ?_
      refine ts_iadd C dX12_renderTable_30 ?_
      refine ts_iald C (by decide) shG165 dX12_renderTable_31 ?_
      refine ts_callSi C [ts_v (M.1 165 (ts_w (55 + y1)))] (mX12_signOf hl) kX12_signOf q_2342 rfl rfl (Nat.le_of_ble_eq_true rfl) ⟨Nat.le_of_ble_eq_true rfl, Nat.le_of_ble_eq_true rfl⟩ ⟨Nat.le_of_ble_eq_true rfl, Nat.le_of_ble_eq_true rfl⟩ dX12_renderTable_32 (fun r6 M5 => ?_)
      refine ts_callVv C [ts_v r6] (mX12_writes hl) kX12_writes q_2485 (by decide) shX12 rfl rfl rfl (Nat.le_of_ble_eq_true rfl) ⟨Nat.le_of_ble_eq_true rfl, Nat.le_of_ble_eq_true rfl⟩ ⟨Nat.le_of_ble_eq_true rfl, Nat.le_of_ble_eq_true rfl⟩ dX12_renderTable_35 (fun M7 => ?_)
      refine ts_aload_n C dX12_renderTable_38 rfl 0 rfl ?_
      refine tgX12_1 C q_1959 dX12_renderTable_39 ?_
      refine ts_bipush C dX12_renderTable_42 55 tb_55 ?_
      refine ts_iload_n C dX12_renderTable_44 rfl 1 rfl ?_
      refine ts_iadd C dX12_renderTable_45 ?_
      refine ts_iald C (by decide) shG165 dX12_renderTable_46 ?_
      refine ts_cm0_ne C rfl 61 dX12_renderTable_47 rfl ?_ ?_
      · exact ts_sub [0, 1] rfl (H61 k12 hk12 _ _)
      · refine ts_aload_n C dX12_renderTable_50 rfl 0 rfl ?_
        refine ts_aload_n C dX12_renderTable_51 rfl 0 rfl ?_
        refine tgX12_1 C q_1959 dX12_renderTable_52 ?_
        refine ts_bipush C dX12_renderTable_55 60 tb_60 ?_
        refine ts_ialdc C (by decide) shG165 tw_60 (by decide) dX12_renderTable_57 ?_
        refine ts_callVv C [ts_v (M7.1 165 60)] (mX12_writesNumber hl) kX12_writesNumber q_2489 (by decide) shX12 rfl rfl rfl (Nat.le_of_ble_eq_true rfl) ⟨Nat.le_of_ble_eq_true rfl, Nat.le_of_ble_eq_true rfl⟩ ⟨Nat.le_of_ble_eq_true rfl, Nat.le_of_ble_eq_true rfl⟩ dX12_renderTable_58 (fun M10 => ?_)
        exact ts_sub [0, 1] rfl (H61 k12 hk12 _ _)
  revert h0
  unfold wX12_renderTable
  have hl0 : lv_args 0 [.ref (ts_ad g 164)] = [(0, .ref (ts_ad g 164))] := rfl
  rw [hl0]
  refine ts_aload_n C dX12_renderTable_0 rfl 0 rfl ?_
  refine ts_iconst C dX12_renderTable_1 0 rfl ?_
  refine tpX12_0 C q_1958 dX12_renderTable_2 (fun M1 => ?_)
  refine ts_aload_n C dX12_renderTable_5 rfl 0 rfl ?_
  refine ts_iconst C dX12_renderTable_6 0 rfl ?_
  refine tpX12_12 C q_1970 dX12_renderTable_7 (fun M2 => ?_)
  refine ts_iconst C dX12_renderTable_10 0 rfl ?_
  refine ts_istore_n C dX12_renderTable_11 rfl (by decide) (lv' := fun x3 => [(1, ts_v x3), (0, .ref (ts_ad g 164))]) (fun _ => rfl) (fun x3 => ?_)
  rintro ⟨n, hn⟩
  exact ts_sub [1, 0] rfl (H12 n _ _) hn
def wX12_renderList_B32  (k12 : Int → ts_M → Prop) (Q : Int → ts_M → Prop)  (y1 : Int) (M : ts_M) : Prop :=
  (wX12_idAt y1 (fun r5 M4 => (wX12_writesNumber r5 (fun M6 => (wX12_writes 64 (fun M7 => (wX12_positionAt y1 (fun r9 M8 => (wX12_writesNumber r9 (fun M10 => (∀ x11 : Int, x11 = y1 + 1 → k12 x11 M10)) M8)) M7)) M6)) M4)) M)
def wX12_renderList_L12   (Q : Int → ts_M → Prop) (k12 : Int → ts_M → Prop) (y1 : Int) (M : ts_M) : Prop :=
  ((ts_w (M.1 165 1) ≤ ts_w y1 → Q (M.1 164 12) M) ∧ (¬ (ts_w (M.1 165 1) ≤ ts_w y1) → ((ts_w y1 ≤ 0 → wX12_renderList_B32 k12 Q y1 M) ∧ (¬ (ts_w y1 ≤ 0) → (wX12_writes 44 (fun M12 => wX12_renderList_B32 k12 Q y1 M12) M)))))
def wX12_renderList (Q : Int → ts_M → Prop) (M : ts_M) : Prop :=
  (∀ M1, M1 = ts_si M 164 0 0 → (∀ M2, M2 = ts_si M1 164 12 0 → (∀ x3 : Int, x3 = 0 → ∃ n, ts_lp1 (wX12_renderList_L12 Q) n x3 M2)))
set_option maxRecDepth 100000 in
set_option maxHeartbeats 4000000 in
theorem mX12_renderList {l : Launch} {g : ts_W} (hl : l.stackTraces = false) {Q : Int → ts_M → Prop} {M : ts_M} : wX12_renderList Q M → ts_Con l g yX12_renderList cX12_renderList 2 (some .int) 2 0 0 [.ref (ts_ad g 164)] M (ts_Ri Q) := by
  intro h0
  refine ts_Con.of hl (by decide) (Nat.le_of_ble_eq_true rfl) ?_
  intro p e s m args below meth c C
  have H32 : ∀ (k12 : Int → ts_M → Prop) (hk12 : ∀ (y1 : Int) (M : ts_M), k12 y1 M → ts_V p l e (ts_rm 2 0 0) s m args below meth c g 2 0 0 (MQ below (ts_Q g (ts_Ri Q)) args s 0 0 (ts_A g)) 12 [(0, .ref (ts_ad g 164)), (1, ts_v y1)] [] M) (y1 : Int) (M : ts_M), wX12_renderList_B32  k12 Q y1 M → ts_V p l e (ts_rm 2 0 0) s m args below meth c g 2 0 0 (MQ below (ts_Q g (ts_Ri Q)) args s 0 0 (ts_A g)) 32 [(0, .ref (ts_ad g 164)), (1, ts_v y1)] [] M := by
    intro k12 hk12 y1 M
    unfold wX12_renderList_B32
    refine ts_aload_n C dX12_renderList_32 rfl 0 rfl ?_
    refine ts_aload_n C dX12_renderList_33 rfl 0 rfl ?_
    refine ts_iload_n C dX12_renderList_34 rfl 1 rfl ?_
    refine ts_callVi C [ts_v y1] (mX12_idAt hl) kX12_idAt q_2089 (by decide) shX12 rfl rfl rfl (Nat.le_of_ble_eq_true rfl) ⟨Nat.le_of_ble_eq_true rfl, Nat.le_of_ble_eq_true rfl⟩ ⟨Nat.le_of_ble_eq_true rfl, Nat.le_of_ble_eq_true rfl⟩ dX12_renderList_35 (fun r5 M4 => ?_)
    refine ts_callVv C [ts_v r5] (mX12_writesNumber hl) kX12_writesNumber q_2489 (by decide) shX12 rfl rfl rfl (Nat.le_of_ble_eq_true rfl) ⟨Nat.le_of_ble_eq_true rfl, Nat.le_of_ble_eq_true rfl⟩ ⟨Nat.le_of_ble_eq_true rfl, Nat.le_of_ble_eq_true rfl⟩ dX12_renderList_38 (fun M6 => ?_)
    refine ts_aload_n C dX12_renderList_41 rfl 0 rfl ?_
    refine ts_bipush C dX12_renderList_42 64 tb_64 ?_
    refine ts_callVv C [ts_v 64] (mX12_writes hl) kX12_writes q_2485 (by decide) shX12 rfl rfl rfl (Nat.le_of_ble_eq_true rfl) ⟨Nat.le_of_ble_eq_true rfl, Nat.le_of_ble_eq_true rfl⟩ ⟨Nat.le_of_ble_eq_true rfl, Nat.le_of_ble_eq_true rfl⟩ dX12_renderList_44 (fun M7 => ?_)
    refine ts_aload_n C dX12_renderList_47 rfl 0 rfl ?_
    refine ts_aload_n C dX12_renderList_48 rfl 0 rfl ?_
    refine ts_iload_n C dX12_renderList_49 rfl 1 rfl ?_
    refine ts_callVi C [ts_v y1] (mX12_positionAt hl) kX12_positionAt q_2189 (by decide) shX12 rfl rfl rfl (Nat.le_of_ble_eq_true rfl) ⟨Nat.le_of_ble_eq_true rfl, Nat.le_of_ble_eq_true rfl⟩ ⟨Nat.le_of_ble_eq_true rfl, Nat.le_of_ble_eq_true rfl⟩ dX12_renderList_50 (fun r9 M8 => ?_)
    refine ts_callVv C [ts_v r9] (mX12_writesNumber hl) kX12_writesNumber q_2489 (by decide) shX12 rfl rfl rfl (Nat.le_of_ble_eq_true rfl) ⟨Nat.le_of_ble_eq_true rfl, Nat.le_of_ble_eq_true rfl⟩ ⟨Nat.le_of_ble_eq_true rfl, Nat.le_of_ble_eq_true rfl⟩ dX12_renderList_53 (fun M10 => ?_)
    refine ts_iinc C dX12_renderList_56 1 rfl (by decide) (lv' := fun x11 => [(1, ts_v x11), (0, .ref (ts_ad g 164))]) (fun _ => rfl) (fun x11 => ?_)
    refine ts_goto C 12 dX12_renderList_59 rfl ?_
    exact ts_sub [1, 0] rfl (hk12 _ _)
  have H12 : ∀ (n : Nat) (y1 : Int) (M : ts_M), ts_lp1 (wX12_renderList_L12   Q) n y1 M → ts_V p l e (ts_rm 2 0 0) s m args below meth c g 2 0 0 (MQ below (ts_Q g (ts_Ri Q)) args s 0 0 (ts_A g)) 12 [(0, .ref (ts_ad g 164)), (1, ts_v y1)] [] M := by
    refine ts_lpr1 (V := fun (y1 : Int) (M : ts_M) => ts_V p l e (ts_rm 2 0 0) s m args below meth c g 2 0 0 (MQ below (ts_Q g (ts_Ri Q)) args s 0 0 (ts_A g)) 12 [(0, .ref (ts_ad g 164)), (1, ts_v y1)] [] M) ?_
    intro k12 hk12 y1 M
    unfold wX12_renderList_L12
    refine ts_iload_n C dX12_renderList_12 rfl 1 rfl ?_
    refine ts_aload_n C dX12_renderList_13 rfl 0 rfl ?_
    refine tgX12_1 C q_1959 dX12_renderList_14 ?_
    refine ts_iconst C dX12_renderList_17 1 rfl ?_
    refine ts_ialdc C (by decide) shG165 tw_1 (by decide) dX12_renderList_18 ?_
    refine ts_cmp_ge C rfl rfl 62 dX12_renderList_19 rfl ?_ ?_
    · refine ts_aload_n C dX12_renderList_62 rfl 0 rfl ?_
      refine tgX12_12 C q_1970 dX12_renderList_63 ?_
      exact ts_ireti C (Nat.zero_le _) (Nat.zero_le _) dX12_renderList_66
    · refine ts_iload_n C dX12_renderList_22 rfl 1 rfl ?_
      refine ts_cm0_le C rfl 32 dX12_renderList_23 rfl ?_ ?_
      · exact ts_sub [0, 1] rfl (H32 k12 hk12 _ _)
      · refine ts_aload_n C dX12_renderList_26 rfl 0 rfl ?_
        refine ts_bipush C dX12_renderList_27 44 tb_44 ?_
        refine ts_callVv C [ts_v 44] (mX12_writes hl) kX12_writes q_2485 (by decide) shX12 rfl rfl rfl (Nat.le_of_ble_eq_true rfl) ⟨Nat.le_of_ble_eq_true rfl, Nat.le_of_ble_eq_true rfl⟩ ⟨Nat.le_of_ble_eq_true rfl, Nat.le_of_ble_eq_true rfl⟩ dX12_renderList_29 (fun M12 => ?_)
        exact ts_sub [0, 1] rfl (H32 k12 hk12 _ _)
  revert h0
  unfold wX12_renderList
  have hl0 : lv_args 0 [.ref (ts_ad g 164)] = [(0, .ref (ts_ad g 164))] := rfl
  rw [hl0]
  refine ts_aload_n C dX12_renderList_0 rfl 0 rfl ?_
  refine ts_iconst C dX12_renderList_1 0 rfl ?_
  refine tpX12_0 C q_1958 dX12_renderList_2 (fun M1 => ?_)
  refine ts_aload_n C dX12_renderList_5 rfl 0 rfl ?_
  refine ts_iconst C dX12_renderList_6 0 rfl ?_
  refine tpX12_12 C q_1970 dX12_renderList_7 (fun M2 => ?_)
  refine ts_iconst C dX12_renderList_10 0 rfl ?_
  refine ts_istore_n C dX12_renderList_11 rfl (by decide) (lv' := fun x3 => [(1, ts_v x3), (0, .ref (ts_ad g 164))]) (fun _ => rfl) (fun x3 => ?_)
  rintro ⟨n, hn⟩
  exact ts_sub [1, 0] rfl (H12 n _ _) hn
def wX12_outputAt (p1 : Int) (Q : Int → ts_M → Prop) (M : ts_M) : Prop :=
  (∀ M1, M1 = ts_si M 164 0 0 → (wX12_isBetween p1 0 ((M1.1 164 12) - 1) (fun r3 M2 => ((ts_w r3 = 0 → (wX12_fails 1 (fun r5 M4 => ((0 ≤ ts_w (ts_i2c r5) ∧ ts_w (ts_i2c r5) < 65536) ∧ Q (ts_i2c r5) M4)) M2)) ∧ (¬ (ts_w r3 = 0) → ((0 ≤ ts_w p1 ∧ ts_w p1 < ((80 : Nat) : Int)) ∧ ((0 ≤ ts_w (M2.1 172 (ts_w p1)) ∧ ts_w (M2.1 172 (ts_w p1)) < 65536) ∧ Q (M2.1 172 (ts_w p1)) M2))))) M1))
set_option maxRecDepth 100000 in
set_option maxHeartbeats 4000000 in
theorem mX12_outputAt {l : Launch} {g : ts_W} (hl : l.stackTraces = false) {p1 : Int} {Q : Int → ts_M → Prop} {M : ts_M} : wX12_outputAt p1 Q M → ts_Con l g yX12_outputAt cX12_outputAt 2 (some .char) 1 0 0 [.ref (ts_ad g 164), ts_v p1] M (ts_Ri Q) := by
  intro h0
  refine ts_Con.of hl (by decide) (Nat.le_of_ble_eq_true rfl) ?_
  intro p e s m args below meth c C
  revert h0
  unfold wX12_outputAt
  have hl0 : lv_args 0 [.ref (ts_ad g 164), ts_v p1] = [(0, .ref (ts_ad g 164)), (1, ts_v p1)] := rfl
  rw [hl0]
  refine ts_aload_n C dX12_outputAt_0 rfl 0 rfl ?_
  refine ts_iconst C dX12_outputAt_1 0 rfl ?_
  refine tpX12_0 C q_1958 dX12_outputAt_2 (fun M1 => ?_)
  refine ts_iload_n C dX12_outputAt_5 rfl 1 rfl ?_
  refine ts_iconst C dX12_outputAt_6 0 rfl ?_
  refine ts_aload_n C dX12_outputAt_7 rfl 0 rfl ?_
  refine tgX12_12 C q_1970 dX12_outputAt_8 ?_
  refine ts_iconst C dX12_outputAt_11 1 rfl ?_
  refine ts_isub C dX12_outputAt_12 ?_
  refine ts_callSi C [ts_v p1, ts_v 0, ts_v ((M1.1 164 12) - 1)] (mX12_isBetween hl) kX12_isBetween q_2034 rfl rfl (Nat.le_of_ble_eq_true rfl) ⟨Nat.le_of_ble_eq_true rfl, Nat.le_of_ble_eq_true rfl⟩ ⟨Nat.le_of_ble_eq_true rfl, Nat.le_of_ble_eq_true rfl⟩ dX12_outputAt_13 (fun r3 M2 => ?_)
  refine ts_cm0_eq C rfl 26 dX12_outputAt_16 rfl ?_ ?_
  · refine ts_aload_n C dX12_outputAt_26 rfl 0 rfl ?_
    refine ts_iconst C dX12_outputAt_27 1 rfl ?_
    refine ts_callVi C [ts_v 1] (mX12_fails hl) kX12_fails q_2037 (by decide) shX12 rfl rfl rfl (Nat.le_of_ble_eq_true rfl) ⟨Nat.le_of_ble_eq_true rfl, Nat.le_of_ble_eq_true rfl⟩ ⟨Nat.le_of_ble_eq_true rfl, Nat.le_of_ble_eq_true rfl⟩ dX12_outputAt_28 (fun r5 M4 => ?_)
    refine ts_i2c0 C dX12_outputAt_31 ?_
    exact ts_creti C (Nat.zero_le _) (Nat.zero_le _) dX12_outputAt_32
  · refine ts_aload_n C dX12_outputAt_19 rfl 0 rfl ?_
    refine tgX12_11 C q_1969 dX12_outputAt_20 ?_
    refine ts_iload_n C dX12_outputAt_23 rfl 1 rfl ?_
    refine ts_cald C (by decide) shG172 dX12_outputAt_24 ?_
    exact ts_creti C (Nat.zero_le _) (Nat.zero_le _) dX12_outputAt_25
def wX12_type (p1 : Int) (Q : Int → ts_M → Prop) (M : ts_M) : Prop :=
  (∀ M1, M1 = ts_si M 164 0 0 → (wX12_isBetween p1 32 126 (fun r3 M2 => ((¬ (ts_w r3 = 0) → ((¬ (ts_w (M2.1 164 14) = 60) → ((0 ≤ ts_w (M2.1 164 14) ∧ ts_w (M2.1 164 14) < ((60 : Nat) : Int)) ∧ ∀ M4, M4 = ts_si M2 173 (ts_w (M2.1 164 14)) (ts_nar .char p1) → (∀ M5, M5 = ts_si M4 164 14 ((M4.1 164 14) + 1) → Q (M5.1 164 14) M5))) ∧ (ts_w (M2.1 164 14) = 60 → (wX12_fails 2 (fun r7 M6 => Q r7 M6) M2)))) ∧ (ts_w r3 = 0 → (wX12_fails 1 (fun r9 M8 => Q r9 M8) M2)))) M1))
set_option maxRecDepth 100000 in
set_option maxHeartbeats 4000000 in
theorem mX12_type {l : Launch} {g : ts_W} (hl : l.stackTraces = false) {p1 : Int} {Q : Int → ts_M → Prop} {M : ts_M} : wX12_type p1 Q M → ts_Con l g yX12_type cX12_type 2 (some .int) 1 0 0 [.ref (ts_ad g 164), ts_v p1] M (ts_Ri Q) := by
  intro h0
  refine ts_Con.of hl (by decide) (Nat.le_of_ble_eq_true rfl) ?_
  intro p e s m args below meth c C
  revert h0
  unfold wX12_type
  have hl0 : lv_args 0 [.ref (ts_ad g 164), ts_v p1] = [(0, .ref (ts_ad g 164)), (1, ts_v p1)] := rfl
  rw [hl0]
  refine ts_aload_n C dX12_type_0 rfl 0 rfl ?_
  refine ts_iconst C dX12_type_1 0 rfl ?_
  refine tpX12_0 C q_1958 dX12_type_2 (fun M1 => ?_)
  refine ts_iload_n C dX12_type_5 rfl 1 rfl ?_
  refine ts_bipush C dX12_type_6 32 tb_32 ?_
  refine ts_bipush C dX12_type_8 126 tb_126 ?_
  refine ts_callSi C [ts_v p1, ts_v 32, ts_v 126] (mX12_isBetween hl) kX12_isBetween q_2034 rfl rfl (Nat.le_of_ble_eq_true rfl) ⟨Nat.le_of_ble_eq_true rfl, Nat.le_of_ble_eq_true rfl⟩ ⟨Nat.le_of_ble_eq_true rfl, Nat.le_of_ble_eq_true rfl⟩ dX12_type_10 (fun r3 M2 => ?_)
  refine ts_cm0_ne C rfl 22 dX12_type_13 rfl ?_ ?_
  · refine ts_aload_n C dX12_type_22 rfl 0 rfl ?_
    refine tgX12_14 C q_1972 dX12_type_23 ?_
    refine ts_bipush C dX12_type_26 60 tb_60 ?_
    refine ts_cmp_ne C rfl tw_60 37 dX12_type_28 rfl ?_ ?_
    · refine ts_aload_n C dX12_type_37 rfl 0 rfl ?_
      refine tgX12_13 C q_1971 dX12_type_38 ?_
      refine ts_aload_n C dX12_type_41 rfl 0 rfl ?_
      refine tgX12_14 C q_1972 dX12_type_42 ?_
      refine ts_iload_n C dX12_type_45 rfl 1 rfl ?_
      refine ts_cast C (by decide) shG173 dX12_type_46 (fun M4 => ?_)
      refine ts_aload_n C dX12_type_47 rfl 0 rfl ?_
      refine ts_dup C dX12_type_48 rfl ?_
      refine tgX12_14 C q_1972 dX12_type_49 ?_
      refine ts_iconst C dX12_type_52 1 rfl ?_
      refine ts_iadd C dX12_type_53 ?_
      refine tpX12_14 C q_1972 dX12_type_54 (fun M5 => ?_)
      refine ts_aload_n C dX12_type_57 rfl 0 rfl ?_
      refine tgX12_14 C q_1972 dX12_type_58 ?_
      exact ts_ireti C (Nat.zero_le _) (Nat.zero_le _) dX12_type_61
    · refine ts_aload_n C dX12_type_31 rfl 0 rfl ?_
      refine ts_iconst C dX12_type_32 2 rfl ?_
      refine ts_callVi C [ts_v 2] (mX12_fails hl) kX12_fails q_2037 (by decide) shX12 rfl rfl rfl (Nat.le_of_ble_eq_true rfl) ⟨Nat.le_of_ble_eq_true rfl, Nat.le_of_ble_eq_true rfl⟩ ⟨Nat.le_of_ble_eq_true rfl, Nat.le_of_ble_eq_true rfl⟩ dX12_type_33 (fun r7 M6 => ?_)
      exact ts_ireti C (Nat.zero_le _) (Nat.zero_le _) dX12_type_36
  · refine ts_aload_n C dX12_type_16 rfl 0 rfl ?_
    refine ts_iconst C dX12_type_17 1 rfl ?_
    refine ts_callVi C [ts_v 1] (mX12_fails hl) kX12_fails q_2037 (by decide) shX12 rfl rfl rfl (Nat.le_of_ble_eq_true rfl) ⟨Nat.le_of_ble_eq_true rfl, Nat.le_of_ble_eq_true rfl⟩ ⟨Nat.le_of_ble_eq_true rfl, Nat.le_of_ble_eq_true rfl⟩ dX12_type_18 (fun r9 M8 => ?_)
    exact ts_ireti C (Nat.zero_le _) (Nat.zero_le _) dX12_type_21
def wX12_nextChar_B24   (Q : Int → ts_M → Prop)  (z0 : Int) (M : ts_M) : Prop :=
  Q z0 M
def wX12_nextChar (Q : Int → ts_M → Prop) (M : ts_M) : Prop :=
  ((ts_w (M.1 164 14) ≤ ts_w (M.1 164 15) → wX12_nextChar_B24 Q (-1) M) ∧ (¬ (ts_w (M.1 164 14) ≤ ts_w (M.1 164 15)) → ((0 ≤ ts_w (M.1 164 15) ∧ ts_w (M.1 164 15) < ((60 : Nat) : Int)) ∧ wX12_nextChar_B24 Q (M.1 173 (ts_w (M.1 164 15))) M)))
set_option maxRecDepth 100000 in
set_option maxHeartbeats 4000000 in
theorem mX12_nextChar {l : Launch} {g : ts_W} (hl : l.stackTraces = false) {Q : Int → ts_M → Prop} {M : ts_M} : wX12_nextChar Q M → ts_Con l g yX12_nextChar cX12_nextChar 1 (some .int) 0 0 0 [.ref (ts_ad g 164)] M (ts_Ri Q) := by
  intro h0
  refine ts_Con.of hl (by decide) (Nat.le_of_ble_eq_true rfl) ?_
  intro p e s m args below meth c C
  have H24 : ∀ (z0 : Int) (M : ts_M), wX12_nextChar_B24   Q z0 M → ts_V p l e (ts_rm 0 0 0) s m args below meth c g 1 0 0 (MQ below (ts_Q g (ts_Ri Q)) args s 0 0 (ts_A g)) 24 [] [ts_v z0] M := by
    intro  z0 M
    unfold wX12_nextChar_B24
    exact ts_ireti C (Nat.zero_le _) (Nat.zero_le _) dX12_nextChar_24
  revert h0
  unfold wX12_nextChar
  have hl0 : lv_args 0 [.ref (ts_ad g 164)] = [(0, .ref (ts_ad g 164))] := rfl
  rw [hl0]
  refine ts_aload_n C dX12_nextChar_0 rfl 0 rfl ?_
  refine tgX12_15 C q_1973 dX12_nextChar_1 ?_
  refine ts_aload_n C dX12_nextChar_4 rfl 0 rfl ?_
  refine tgX12_14 C q_1972 dX12_nextChar_5 ?_
  refine ts_cmp_ge C rfl rfl 23 dX12_nextChar_8 rfl ?_ ?_
  · refine ts_iconst C dX12_nextChar_23 (-1) rfl ?_
    exact ts_sub [] rfl (H24 _ _)
  · refine ts_aload_n C dX12_nextChar_11 rfl 0 rfl ?_
    refine tgX12_13 C q_1971 dX12_nextChar_12 ?_
    refine ts_aload_n C dX12_nextChar_15 rfl 0 rfl ?_
    refine tgX12_15 C q_1973 dX12_nextChar_16 ?_
    refine ts_cald C (by decide) shG173 dX12_nextChar_19 ?_
    refine ts_goto C 24 dX12_nextChar_20 rfl ?_
    exact ts_sub [] rfl (H24 _ _)
def wX12_reads (p1 : Int) (Q : Int → ts_M → Prop) (M : ts_M) : Prop :=
  (wX12_nextChar  (fun r2 M1 => ((ts_w r2 = ts_w p1 → (∀ M3, M3 = ts_si M1 164 15 ((M1.1 164 15) + 1) → Q 1 M3)) ∧ (¬ (ts_w r2 = ts_w p1) → Q 0 M1))) M)
set_option maxRecDepth 100000 in
set_option maxHeartbeats 4000000 in
theorem mX12_reads {l : Launch} {g : ts_W} (hl : l.stackTraces = false) {p1 : Int} {Q : Int → ts_M → Prop} {M : ts_M} : wX12_reads p1 Q M → ts_Con l g yX12_reads cX12_reads 2 (some .boolean) 1 0 0 [.ref (ts_ad g 164), ts_v p1] M (ts_Ri Q) := by
  intro h0
  refine ts_Con.of hl (by decide) (Nat.le_of_ble_eq_true rfl) ?_
  intro p e s m args below meth c C
  revert h0
  unfold wX12_reads
  have hl0 : lv_args 0 [.ref (ts_ad g 164), ts_v p1] = [(0, .ref (ts_ad g 164)), (1, ts_v p1)] := rfl
  rw [hl0]
  refine ts_aload_n C dX12_reads_0 rfl 0 rfl ?_
  refine ts_callVi C [] (mX12_nextChar hl) kX12_nextChar q_2517 (by decide) shX12 rfl rfl rfl (Nat.le_of_ble_eq_true rfl) ⟨Nat.le_of_ble_eq_true rfl, Nat.le_of_ble_eq_true rfl⟩ ⟨Nat.le_of_ble_eq_true rfl, Nat.le_of_ble_eq_true rfl⟩ dX12_reads_1 (fun r2 M1 => ?_)
  refine ts_iload_n C dX12_reads_4 rfl 1 rfl ?_
  refine ts_cmp_eq C rfl rfl 10 dX12_reads_5 rfl ?_ ?_
  · refine ts_aload_n C dX12_reads_10 rfl 0 rfl ?_
    refine ts_dup C dX12_reads_11 rfl ?_
    refine tgX12_15 C q_1973 dX12_reads_12 ?_
    refine ts_iconst C dX12_reads_15 1 rfl ?_
    refine ts_iadd C dX12_reads_16 ?_
    refine tpX12_15 C q_1973 dX12_reads_17 (fun M3 => ?_)
    refine ts_iconst C dX12_reads_20 1 rfl ?_
    exact ts_zretci C (by decide) (Nat.zero_le _) (Nat.zero_le _) dX12_reads_21
  · refine ts_iconst C dX12_reads_8 0 rfl ?_
    exact ts_zretci C (by decide) (Nat.zero_le _) (Nat.zero_le _) dX12_reads_9
def wX12_readsDigit (p1 : Int) (Q : Int → ts_M → Prop) (M : ts_M) : Prop :=
  (wX12_nextChar  (fun r2 M1 => (wX12_isBetween r2 48 57 (fun r4 M3 => ((¬ (ts_w r4 = 0) → (wX12_nextChar  (fun r6 M5 => ((0 ≤ ts_w p1 ∧ ts_w p1 < ((3 : Nat) : Int)) ∧ ∀ M7, M7 = ts_si M5 174 (ts_w p1) (r6 - 48) → (∀ M8, M8 = ts_si M7 164 15 ((M7.1 164 15) + 1) → Q 1 M8))) M3)) ∧ (ts_w r4 = 0 → Q 0 M3))) M1)) M)
set_option maxRecDepth 100000 in
set_option maxHeartbeats 4000000 in
theorem mX12_readsDigit {l : Launch} {g : ts_W} (hl : l.stackTraces = false) {p1 : Int} {Q : Int → ts_M → Prop} {M : ts_M} : wX12_readsDigit p1 Q M → ts_Con l g yX12_readsDigit cX12_readsDigit 2 (some .boolean) 1 0 0 [.ref (ts_ad g 164), ts_v p1] M (ts_Ri Q) := by
  intro h0
  refine ts_Con.of hl (by decide) (Nat.le_of_ble_eq_true rfl) ?_
  intro p e s m args below meth c C
  revert h0
  unfold wX12_readsDigit
  have hl0 : lv_args 0 [.ref (ts_ad g 164), ts_v p1] = [(0, .ref (ts_ad g 164)), (1, ts_v p1)] := rfl
  rw [hl0]
  refine ts_aload_n C dX12_readsDigit_0 rfl 0 rfl ?_
  refine ts_callVi C [] (mX12_nextChar hl) kX12_nextChar q_2517 (by decide) shX12 rfl rfl rfl (Nat.le_of_ble_eq_true rfl) ⟨Nat.le_of_ble_eq_true rfl, Nat.le_of_ble_eq_true rfl⟩ ⟨Nat.le_of_ble_eq_true rfl, Nat.le_of_ble_eq_true rfl⟩ dX12_readsDigit_1 (fun r2 M1 => ?_)
  refine ts_bipush C dX12_readsDigit_4 48 tb_48 ?_
  refine ts_bipush C dX12_readsDigit_6 57 tb_57 ?_
  refine ts_callSi C [ts_v r2, ts_v 48, ts_v 57] (mX12_isBetween hl) kX12_isBetween q_2034 rfl rfl (Nat.le_of_ble_eq_true rfl) ⟨Nat.le_of_ble_eq_true rfl, Nat.le_of_ble_eq_true rfl⟩ ⟨Nat.le_of_ble_eq_true rfl, Nat.le_of_ble_eq_true rfl⟩ dX12_readsDigit_8 (fun r4 M3 => ?_)
  refine ts_cm0_ne C rfl 16 dX12_readsDigit_11 rfl ?_ ?_
  · refine ts_aload_n C dX12_readsDigit_16 rfl 0 rfl ?_
    refine tgX12_18 C q_1976 dX12_readsDigit_17 ?_
    refine ts_iload_n C dX12_readsDigit_20 rfl 1 rfl ?_
    refine ts_aload_n C dX12_readsDigit_21 rfl 0 rfl ?_
    refine ts_callVi C [] (mX12_nextChar hl) kX12_nextChar q_2517 (by decide) shX12 rfl rfl rfl (Nat.le_of_ble_eq_true rfl) ⟨Nat.le_of_ble_eq_true rfl, Nat.le_of_ble_eq_true rfl⟩ ⟨Nat.le_of_ble_eq_true rfl, Nat.le_of_ble_eq_true rfl⟩ dX12_readsDigit_22 (fun r6 M5 => ?_)
    refine ts_bipush C dX12_readsDigit_25 48 tb_48 ?_
    refine ts_isub C dX12_readsDigit_27 ?_
    refine ts_iast C (by decide) shG174 dX12_readsDigit_28 (fun M7 => ?_)
    refine ts_aload_n C dX12_readsDigit_29 rfl 0 rfl ?_
    refine ts_dup C dX12_readsDigit_30 rfl ?_
    refine tgX12_15 C q_1973 dX12_readsDigit_31 ?_
    refine ts_iconst C dX12_readsDigit_34 1 rfl ?_
    refine ts_iadd C dX12_readsDigit_35 ?_
    refine tpX12_15 C q_1973 dX12_readsDigit_36 (fun M8 => ?_)
    refine ts_iconst C dX12_readsDigit_39 1 rfl ?_
    exact ts_zretci C (by decide) (Nat.zero_le _) (Nat.zero_le _) dX12_readsDigit_40
  · refine ts_iconst C dX12_readsDigit_14 0 rfl ?_
    exact ts_zretci C (by decide) (Nat.zero_le _) (Nat.zero_le _) dX12_readsDigit_15
def wX12_readsNumber (p1 : Int) (Q : Int → ts_M → Prop) (M : ts_M) : Prop :=
  (wX12_readsDigit p1 (fun r2 M1 => ((¬ (ts_w r2 = 0) → (wX12_nextChar  (fun r4 M3 => (wX12_isBetween r4 48 57 (fun r6 M5 => ((¬ (ts_w r6 = 0) → ((0 ≤ ts_w p1 ∧ ts_w p1 < ((3 : Nat) : Int)) ∧ (wX12_nextChar  (fun r8 M7 => ((0 ≤ ts_w p1 ∧ ts_w p1 < ((3 : Nat) : Int)) ∧ ∀ M9, M9 = ts_si M7 174 (ts_w p1) (((10 * (M5.1 174 (ts_w p1))) + r8) - 48) → (∀ M10, M10 = ts_si M9 164 15 ((M9.1 164 15) + 1) → Q 1 M10))) M5))) ∧ (ts_w r6 = 0 → Q 1 M5))) M3)) M1)) ∧ (ts_w r2 = 0 → Q 0 M1))) M)
set_option maxRecDepth 100000 in
set_option maxHeartbeats 4000000 in
theorem mX12_readsNumber {l : Launch} {g : ts_W} (hl : l.stackTraces = false) {p1 : Int} {Q : Int → ts_M → Prop} {M : ts_M} : wX12_readsNumber p1 Q M → ts_Con l g yX12_readsNumber cX12_readsNumber 2 (some .boolean) 2 0 0 [.ref (ts_ad g 164), ts_v p1] M (ts_Ri Q) := by
  intro h0
  refine ts_Con.of hl (by decide) (Nat.le_of_ble_eq_true rfl) ?_
  intro p e s m args below meth c C
  revert h0
  unfold wX12_readsNumber
  have hl0 : lv_args 0 [.ref (ts_ad g 164), ts_v p1] = [(0, .ref (ts_ad g 164)), (1, ts_v p1)] := rfl
  rw [hl0]
  refine ts_aload_n C dX12_readsNumber_0 rfl 0 rfl ?_
  refine ts_iload_n C dX12_readsNumber_1 rfl 1 rfl ?_
  refine ts_callVi C [ts_v p1] (mX12_readsDigit hl) kX12_readsDigit q_2533 (by decide) shX12 rfl rfl rfl (Nat.le_of_ble_eq_true rfl) ⟨Nat.le_of_ble_eq_true rfl, Nat.le_of_ble_eq_true rfl⟩ ⟨Nat.le_of_ble_eq_true rfl, Nat.le_of_ble_eq_true rfl⟩ dX12_readsNumber_2 (fun r2 M1 => ?_)
  refine ts_cm0_ne C rfl 10 dX12_readsNumber_5 rfl ?_ ?_
  · refine ts_aload_n C dX12_readsNumber_10 rfl 0 rfl ?_
    refine ts_callVi C [] (mX12_nextChar hl) kX12_nextChar q_2517 (by decide) shX12 rfl rfl rfl (Nat.le_of_ble_eq_true rfl) ⟨Nat.le_of_ble_eq_true rfl, Nat.le_of_ble_eq_true rfl⟩ ⟨Nat.le_of_ble_eq_true rfl, Nat.le_of_ble_eq_true rfl⟩ dX12_readsNumber_11 (fun r4 M3 => ?_)
    refine ts_bipush C dX12_readsNumber_14 48 tb_48 ?_
    refine ts_bipush C dX12_readsNumber_16 57 tb_57 ?_
    refine ts_callSi C [ts_v r4, ts_v 48, ts_v 57] (mX12_isBetween hl) kX12_isBetween q_2034 rfl rfl (Nat.le_of_ble_eq_true rfl) ⟨Nat.le_of_ble_eq_true rfl, Nat.le_of_ble_eq_true rfl⟩ ⟨Nat.le_of_ble_eq_true rfl, Nat.le_of_ble_eq_true rfl⟩ dX12_readsNumber_18 (fun r6 M5 => ?_)
    refine ts_cm0_ne C rfl 26 dX12_readsNumber_21 rfl ?_ ?_
    · refine ts_aload_n C dX12_readsNumber_26 rfl 0 rfl ?_
      refine tgX12_18 C q_1976 dX12_readsNumber_27 ?_
      refine ts_iload_n C dX12_readsNumber_30 rfl 1 rfl ?_
      refine ts_bipush C dX12_readsNumber_31 10 tb_10 ?_
      refine ts_aload_n C dX12_readsNumber_33 rfl 0 rfl ?_
      refine tgX12_18 C q_1976 dX12_readsNumber_34 ?_
      refine ts_iload_n C dX12_readsNumber_37 rfl 1 rfl ?_
      refine ts_iald C (by decide) shG174 dX12_readsNumber_38 ?_
      refine ts_imul C dX12_readsNumber_39 ?_
      refine ts_aload_n C dX12_readsNumber_40 rfl 0 rfl ?_
      refine ts_callVi C [] (mX12_nextChar hl) kX12_nextChar q_2517 (by decide) shX12 rfl rfl rfl (Nat.le_of_ble_eq_true rfl) ⟨Nat.le_of_ble_eq_true rfl, Nat.le_of_ble_eq_true rfl⟩ ⟨Nat.le_of_ble_eq_true rfl, Nat.le_of_ble_eq_true rfl⟩ dX12_readsNumber_41 (fun r8 M7 => ?_)
      refine ts_iadd C dX12_readsNumber_44 ?_
      refine ts_bipush C dX12_readsNumber_45 48 tb_48 ?_
      refine ts_isub C dX12_readsNumber_47 ?_
      refine ts_iast C (by decide) shG174 dX12_readsNumber_48 (fun M9 => ?_)
      refine ts_aload_n C dX12_readsNumber_49 rfl 0 rfl ?_
      refine ts_dup C dX12_readsNumber_50 rfl ?_
      refine tgX12_15 C q_1973 dX12_readsNumber_51 ?_
      refine ts_iconst C dX12_readsNumber_54 1 rfl ?_
      refine ts_iadd C dX12_readsNumber_55 ?_
      refine tpX12_15 C q_1973 dX12_readsNumber_56 (fun M10 => ?_)
      refine ts_iconst C dX12_readsNumber_59 1 rfl ?_
      exact ts_zretci C (by decide) (Nat.zero_le _) (Nat.zero_le _) dX12_readsNumber_60
    · refine ts_iconst C dX12_readsNumber_24 1 rfl ?_
      exact ts_zretci C (by decide) (Nat.zero_le _) (Nat.zero_le _) dX12_readsNumber_25
  · refine ts_iconst C dX12_readsNumber_8 0 rfl ?_
    exact ts_zretci C (by decide) (Nat.zero_le _) (Nat.zero_le _) dX12_readsNumber_9
def wX12_readsSp_B203   (Q : Int → ts_M → Prop)  (z0 : Int) (M : ts_M) : Prop :=
  ((ts_w z0 = 0 ∨ ts_w z0 = 1) ∧ Q z0 M)
def wX12_readsSp_B202   (Q : Int → ts_M → Prop)   (M : ts_M) : Prop :=
  wX12_readsSp_B203 Q 0 M
def wX12_readsSp_B122   (Q : Int → ts_M → Prop)  (z0 : Int) (M : ts_M) : Prop :=
  ((ts_w z0 = 0 ∨ ts_w z0 = 1) ∧ Q z0 M)
def wX12_readsSp_B121   (Q : Int → ts_M → Prop)   (M : ts_M) : Prop :=
  wX12_readsSp_B122 Q 0 M
def wX12_readsSp_B66   (Q : Int → ts_M → Prop)  (z0 : Int) (M : ts_M) : Prop :=
  ((ts_w z0 = 0 ∨ ts_w z0 = 1) ∧ Q z0 M)
def wX12_readsSp_B65   (Q : Int → ts_M → Prop)   (M : ts_M) : Prop :=
  wX12_readsSp_B66 Q 0 M
def wX12_readsSp (Q : Int → ts_M → Prop) (M : ts_M) : Prop :=
  (wX12_reads 111 (fun r2 M1 => ((ts_w r2 = 0 → (∀ M3, M3 = ts_si M1 164 19 107 → (wX12_reads 101 (fun r5 M4 => ((ts_w r5 = 0 → (∀ M6, M6 = ts_si M4 164 19 105 → (wX12_reads 105 (fun r8 M7 => ((ts_w r8 = 0 → wX12_readsSp_B202 Q M7) ∧ (¬ (ts_w r8 = 0) → (wX12_reads 108 (fun r10 M9 => ((ts_w r10 = 0 → wX12_readsSp_B202 Q M9) ∧ (¬ (ts_w r10 = 0) → (wX12_reads 108 (fun r12 M11 => ((ts_w r12 = 0 → wX12_readsSp_B202 Q M11) ∧ (¬ (ts_w r12 = 0) → (wX12_reads 32 (fun r14 M13 => ((ts_w r14 = 0 → wX12_readsSp_B202 Q M13) ∧ (¬ (ts_w r14 = 0) → (wX12_readsDigit 0 (fun r16 M15 => ((ts_w r16 = 0 → wX12_readsSp_B202 Q M15) ∧ (¬ (ts_w r16 = 0) → (wX12_readsDigit 1 (fun r18 M17 => ((ts_w r18 = 0 → wX12_readsSp_B202 Q M17) ∧ (¬ (ts_w r18 = 0) → (wX12_reads 32 (fun r20 M19 => ((ts_w r20 = 0 → wX12_readsSp_B202 Q M19) ∧ (¬ (ts_w r20 = 0) → (wX12_readsNumber 2 (fun r22 M21 => ((ts_w r22 = 0 → wX12_readsSp_B202 Q M21) ∧ (¬ (ts_w r22 = 0) → wX12_readsSp_B203 Q 1 M21))) M19)))) M17)))) M15)))) M13)))) M11)))) M9)))) M7)))) M6))) ∧ (¬ (ts_w r5 = 0) → (wX12_reads 97 (fun r24 M23 => ((ts_w r24 = 0 → wX12_readsSp_B121 Q M23) ∧ (¬ (ts_w r24 = 0) → (wX12_reads 107 (fun r26 M25 => ((ts_w r26 = 0 → wX12_readsSp_B121 Q M25) ∧ (¬ (ts_w r26 = 0) → (wX12_reads 32 (fun r28 M27 => ((ts_w r28 = 0 → wX12_readsSp_B121 Q M27) ∧ (¬ (ts_w r28 = 0) → (wX12_readsDigit 0 (fun r30 M29 => ((ts_w r30 = 0 → wX12_readsSp_B121 Q M29) ∧ (¬ (ts_w r30 = 0) → wX12_readsSp_B122 Q 1 M29))) M27)))) M25)))) M23)))) M4)))) M3))) ∧ (¬ (ts_w r2 = 0) → (wX12_reads 111 (fun r32 M31 => ((ts_w r32 = 0 → wX12_readsSp_B65 Q M31) ∧ (¬ (ts_w r32 = 0) → (wX12_reads 110 (fun r34 M33 => ((ts_w r34 = 0 → wX12_readsSp_B65 Q M33) ∧ (¬ (ts_w r34 = 0) → (wX12_reads 32 (fun r36 M35 => ((ts_w r36 = 0 → wX12_readsSp_B65 Q M35) ∧ (¬ (ts_w r36 = 0) → (wX12_readsDigit 0 (fun r38 M37 => ((ts_w r38 = 0 → wX12_readsSp_B65 Q M37) ∧ (¬ (ts_w r38 = 0) → (wX12_reads 32 (fun r40 M39 => ((ts_w r40 = 0 → wX12_readsSp_B65 Q M39) ∧ (¬ (ts_w r40 = 0) → (wX12_readsNumber 1 (fun r42 M41 => ((ts_w r42 = 0 → wX12_readsSp_B65 Q M41) ∧ (¬ (ts_w r42 = 0) → wX12_readsSp_B66 Q 1 M41))) M39)))) M37)))) M35)))) M33)))) M31)))) M1)))) M)
set_option maxRecDepth 100000 in
set_option maxHeartbeats 4000000 in
theorem mX12_readsSp {l : Launch} {g : ts_W} (hl : l.stackTraces = false) {Q : Int → ts_M → Prop} {M : ts_M} : wX12_readsSp Q M → ts_Con l g yX12_readsSp cX12_readsSp 1 (some .boolean) 3 0 0 [.ref (ts_ad g 164)] M (ts_Ri Q) := by
  intro h0
  refine ts_Con.of hl (by decide) (Nat.le_of_ble_eq_true rfl) ?_
  intro p e s m args below meth c C
  have H203 : ∀ (z0 : Int) (M : ts_M), wX12_readsSp_B203   Q z0 M → ts_V p l e (ts_rm 3 0 0) s m args below meth c g 1 0 0 (MQ below (ts_Q g (ts_Ri Q)) args s 0 0 (ts_A g)) 203 [] [ts_v z0] M := by
    intro  z0 M
    unfold wX12_readsSp_B203
    exact ts_zreti C (Nat.zero_le _) (Nat.zero_le _) dX12_readsSp_203
  have H202 : ∀  (M : ts_M), wX12_readsSp_B202   Q  M → ts_V p l e (ts_rm 3 0 0) s m args below meth c g 1 0 0 (MQ below (ts_Q g (ts_Ri Q)) args s 0 0 (ts_A g)) 202 [] [] M := by
    intro   M
    unfold wX12_readsSp_B202
    refine ts_iconst C dX12_readsSp_202 0 rfl ?_
    exact ts_sub [] rfl (H203 _ _)
  have H122 : ∀ (z0 : Int) (M : ts_M), wX12_readsSp_B122   Q z0 M → ts_V p l e (ts_rm 3 0 0) s m args below meth c g 1 0 0 (MQ below (ts_Q g (ts_Ri Q)) args s 0 0 (ts_A g)) 122 [] [ts_v z0] M := by
    intro  z0 M
    unfold wX12_readsSp_B122
    exact ts_zreti C (Nat.zero_le _) (Nat.zero_le _) dX12_readsSp_122
  have H121 : ∀  (M : ts_M), wX12_readsSp_B121   Q  M → ts_V p l e (ts_rm 3 0 0) s m args below meth c g 1 0 0 (MQ below (ts_Q g (ts_Ri Q)) args s 0 0 (ts_A g)) 121 [] [] M := by
    intro   M
    unfold wX12_readsSp_B121
    refine ts_iconst C dX12_readsSp_121 0 rfl ?_
    exact ts_sub [] rfl (H122 _ _)
  have H66 : ∀ (z0 : Int) (M : ts_M), wX12_readsSp_B66   Q z0 M → ts_V p l e (ts_rm 3 0 0) s m args below meth c g 1 0 0 (MQ below (ts_Q g (ts_Ri Q)) args s 0 0 (ts_A g)) 66 [] [ts_v z0] M := by
    intro  z0 M
    unfold wX12_readsSp_B66
    exact ts_zreti C (Nat.zero_le _) (Nat.zero_le _) dX12_readsSp_66
  have H65 : ∀  (M : ts_M), wX12_readsSp_B65   Q  M → ts_V p l e (ts_rm 3 0 0) s m args below meth c g 1 0 0 (MQ below (ts_Q g (ts_Ri Q)) args s 0 0 (ts_A g)) 65 [] [] M := by
    intro   M
    unfold wX12_readsSp_B65
    refine ts_iconst C dX12_readsSp_65 0 rfl ?_
    exact ts_sub [] rfl (H66 _ _)
  revert h0
  unfold wX12_readsSp
  have hl0 : lv_args 0 [.ref (ts_ad g 164)] = [(0, .ref (ts_ad g 164))] := rfl
  rw [hl0]
  refine ts_aload_n C dX12_readsSp_0 rfl 0 rfl ?_
  refine ts_bipush C dX12_readsSp_1 111 tb_111 ?_
  refine ts_callVi C [ts_v 111] (mX12_reads hl) kX12_reads q_2521 (by decide) shX12 rfl rfl rfl (Nat.le_of_ble_eq_true rfl) ⟨Nat.le_of_ble_eq_true rfl, Nat.le_of_ble_eq_true rfl⟩ ⟨Nat.le_of_ble_eq_true rfl, Nat.le_of_ble_eq_true rfl⟩ dX12_readsSp_3 (fun r2 M1 => ?_)
  refine ts_cm0_eq C rfl 67 dX12_readsSp_6 rfl ?_ ?_
  · refine ts_aload_n C dX12_readsSp_67 rfl 0 rfl ?_
    refine ts_bipush C dX12_readsSp_68 107 tb_107 ?_
    refine tpX12_19 C q_1977 dX12_readsSp_70 (fun M3 => ?_)
    refine ts_aload_n C dX12_readsSp_73 rfl 0 rfl ?_
    refine ts_bipush C dX12_readsSp_74 101 tb_101 ?_
    refine ts_callVi C [ts_v 101] (mX12_reads hl) kX12_reads q_2521 (by decide) shX12 rfl rfl rfl (Nat.le_of_ble_eq_true rfl) ⟨Nat.le_of_ble_eq_true rfl, Nat.le_of_ble_eq_true rfl⟩ ⟨Nat.le_of_ble_eq_true rfl, Nat.le_of_ble_eq_true rfl⟩ dX12_readsSp_76 (fun r5 M4 => ?_)
    refine ts_cm0_eq C rfl 123 dX12_readsSp_79 rfl ?_ ?_
    · refine ts_aload_n C dX12_readsSp_123 rfl 0 rfl ?_
      refine ts_bipush C dX12_readsSp_124 105 tb_105 ?_
      refine tpX12_19 C q_1977 dX12_readsSp_126 (fun M6 => ?_)
      refine ts_aload_n C dX12_readsSp_129 rfl 0 rfl ?_
      refine ts_bipush C dX12_readsSp_130 105 tb_105 ?_
      refine ts_callVi C [ts_v 105] (mX12_reads hl) kX12_reads q_2521 (by decide) shX12 rfl rfl rfl (Nat.le_of_ble_eq_true rfl) ⟨Nat.le_of_ble_eq_true rfl, Nat.le_of_ble_eq_true rfl⟩ ⟨Nat.le_of_ble_eq_true rfl, Nat.le_of_ble_eq_true rfl⟩ dX12_readsSp_132 (fun r8 M7 => ?_)
      refine ts_cm0_eq C rfl 202 dX12_readsSp_135 rfl ?_ ?_
      · exact ts_sub [] rfl (H202 _)
      · refine ts_aload_n C dX12_readsSp_138 rfl 0 rfl ?_
        refine ts_bipush C dX12_readsSp_139 108 tb_108 ?_
        refine ts_callVi C [ts_v 108] (mX12_reads hl) kX12_reads q_2521 (by decide) shX12 rfl rfl rfl (Nat.le_of_ble_eq_true rfl) ⟨Nat.le_of_ble_eq_true rfl, Nat.le_of_ble_eq_true rfl⟩ ⟨Nat.le_of_ble_eq_true rfl, Nat.le_of_ble_eq_true rfl⟩ dX12_readsSp_141 (fun r10 M9 => ?_)
        refine ts_cm0_eq C rfl 202 dX12_readsSp_144 rfl ?_ ?_
        · exact ts_sub [] rfl (H202 _)
        · refine ts_aload_n C dX12_readsSp_147 rfl 0 rfl ?_
          refine ts_bipush C dX12_readsSp_148 108 tb_108 ?_
          refine ts_callVi C [ts_v 108] (mX12_reads hl) kX12_reads q_2521 (by decide) shX12 rfl rfl rfl (Nat.le_of_ble_eq_true rfl) ⟨Nat.le_of_ble_eq_true rfl, Nat.le_of_ble_eq_true rfl⟩ ⟨Nat.le_of_ble_eq_true rfl, Nat.le_of_ble_eq_true rfl⟩ dX12_readsSp_150 (fun r12 M11 => ?_)
          refine ts_cm0_eq C rfl 202 dX12_readsSp_153 rfl ?_ ?_
          · exact ts_sub [] rfl (H202 _)
          · refine ts_aload_n C dX12_readsSp_156 rfl 0 rfl ?_
            refine ts_bipush C dX12_readsSp_157 32 tb_32 ?_
            refine ts_callVi C [ts_v 32] (mX12_reads hl) kX12_reads q_2521 (by decide) shX12 rfl rfl rfl (Nat.le_of_ble_eq_true rfl) ⟨Nat.le_of_ble_eq_true rfl, Nat.le_of_ble_eq_true rfl⟩ ⟨Nat.le_of_ble_eq_true rfl, Nat.le_of_ble_eq_true rfl⟩ dX12_readsSp_159 (fun r14 M13 => ?_)
            refine ts_cm0_eq C rfl 202 dX12_readsSp_162 rfl ?_ ?_
            · exact ts_sub [] rfl (H202 _)
            · refine ts_aload_n C dX12_readsSp_165 rfl 0 rfl ?_
              refine ts_iconst C dX12_readsSp_166 0 rfl ?_
              refine ts_callVi C [ts_v 0] (mX12_readsDigit hl) kX12_readsDigit q_2533 (by decide) shX12 rfl rfl rfl (Nat.le_of_ble_eq_true rfl) ⟨Nat.le_of_ble_eq_true rfl, Nat.le_of_ble_eq_true rfl⟩ ⟨Nat.le_of_ble_eq_true rfl, Nat.le_of_ble_eq_true rfl⟩ dX12_readsSp_167 (fun r16 M15 => ?_)
              refine ts_cm0_eq C rfl 202 dX12_readsSp_170 rfl ?_ ?_
              · exact ts_sub [] rfl (H202 _)
              · refine ts_aload_n C dX12_readsSp_173 rfl 0 rfl ?_
                refine ts_iconst C dX12_readsSp_174 1 rfl ?_
                refine ts_callVi C [ts_v 1] (mX12_readsDigit hl) kX12_readsDigit q_2533 (by decide) shX12 rfl rfl rfl (Nat.le_of_ble_eq_true rfl) ⟨Nat.le_of_ble_eq_true rfl, Nat.le_of_ble_eq_true rfl⟩ ⟨Nat.le_of_ble_eq_true rfl, Nat.le_of_ble_eq_true rfl⟩ dX12_readsSp_175 (fun r18 M17 => ?_)
                refine ts_cm0_eq C rfl 202 dX12_readsSp_178 rfl ?_ ?_
                · exact ts_sub [] rfl (H202 _)
                · refine ts_aload_n C dX12_readsSp_181 rfl 0 rfl ?_
                  refine ts_bipush C dX12_readsSp_182 32 tb_32 ?_
                  refine ts_callVi C [ts_v 32] (mX12_reads hl) kX12_reads q_2521 (by decide) shX12 rfl rfl rfl (Nat.le_of_ble_eq_true rfl) ⟨Nat.le_of_ble_eq_true rfl, Nat.le_of_ble_eq_true rfl⟩ ⟨Nat.le_of_ble_eq_true rfl, Nat.le_of_ble_eq_true rfl⟩ dX12_readsSp_184 (fun r20 M19 => ?_)
                  refine ts_cm0_eq C rfl 202 dX12_readsSp_187 rfl ?_ ?_
                  · exact ts_sub [] rfl (H202 _)
                  · refine ts_aload_n C dX12_readsSp_190 rfl 0 rfl ?_
                    refine ts_iconst C dX12_readsSp_191 2 rfl ?_
                    refine ts_callVi C [ts_v 2] (mX12_readsNumber hl) kX12_readsNumber q_2537 (by decide) shX12 rfl rfl rfl (Nat.le_of_ble_eq_true rfl) ⟨Nat.le_of_ble_eq_true rfl, Nat.le_of_ble_eq_true rfl⟩ ⟨Nat.le_of_ble_eq_true rfl, Nat.le_of_ble_eq_true rfl⟩ dX12_readsSp_192 (fun r22 M21 => ?_)
                    refine ts_cm0_eq C rfl 202 dX12_readsSp_195 rfl ?_ ?_
                    · exact ts_sub [] rfl (H202 _)
                    · refine ts_iconst C dX12_readsSp_198 1 rfl ?_
                      refine ts_goto C 203 dX12_readsSp_199 rfl ?_
                      exact ts_sub [] rfl (H203 _ _)
    · refine ts_aload_n C dX12_readsSp_82 rfl 0 rfl ?_
      refine ts_bipush C dX12_readsSp_83 97 tb_97 ?_
      refine ts_callVi C [ts_v 97] (mX12_reads hl) kX12_reads q_2521 (by decide) shX12 rfl rfl rfl (Nat.le_of_ble_eq_true rfl) ⟨Nat.le_of_ble_eq_true rfl, Nat.le_of_ble_eq_true rfl⟩ ⟨Nat.le_of_ble_eq_true rfl, Nat.le_of_ble_eq_true rfl⟩ dX12_readsSp_85 (fun r24 M23 => ?_)
      refine ts_cm0_eq C rfl 121 dX12_readsSp_88 rfl ?_ ?_
      · exact ts_sub [] rfl (H121 _)
      · refine ts_aload_n C dX12_readsSp_91 rfl 0 rfl ?_
        refine ts_bipush C dX12_readsSp_92 107 tb_107 ?_
        refine ts_callVi C [ts_v 107] (mX12_reads hl) kX12_reads q_2521 (by decide) shX12 rfl rfl rfl (Nat.le_of_ble_eq_true rfl) ⟨Nat.le_of_ble_eq_true rfl, Nat.le_of_ble_eq_true rfl⟩ ⟨Nat.le_of_ble_eq_true rfl, Nat.le_of_ble_eq_true rfl⟩ dX12_readsSp_94 (fun r26 M25 => ?_)
        refine ts_cm0_eq C rfl 121 dX12_readsSp_97 rfl ?_ ?_
        · exact ts_sub [] rfl (H121 _)
        · refine ts_aload_n C dX12_readsSp_100 rfl 0 rfl ?_
          refine ts_bipush C dX12_readsSp_101 32 tb_32 ?_
          refine ts_callVi C [ts_v 32] (mX12_reads hl) kX12_reads q_2521 (by decide) shX12 rfl rfl rfl (Nat.le_of_ble_eq_true rfl) ⟨Nat.le_of_ble_eq_true rfl, Nat.le_of_ble_eq_true rfl⟩ ⟨Nat.le_of_ble_eq_true rfl, Nat.le_of_ble_eq_true rfl⟩ dX12_readsSp_103 (fun r28 M27 => ?_)
          refine ts_cm0_eq C rfl 121 dX12_readsSp_106 rfl ?_ ?_
          · exact ts_sub [] rfl (H121 _)
          · refine ts_aload_n C dX12_readsSp_109 rfl 0 rfl ?_
            refine ts_iconst C dX12_readsSp_110 0 rfl ?_
            refine ts_callVi C [ts_v 0] (mX12_readsDigit hl) kX12_readsDigit q_2533 (by decide) shX12 rfl rfl rfl (Nat.le_of_ble_eq_true rfl) ⟨Nat.le_of_ble_eq_true rfl, Nat.le_of_ble_eq_true rfl⟩ ⟨Nat.le_of_ble_eq_true rfl, Nat.le_of_ble_eq_true rfl⟩ dX12_readsSp_111 (fun r30 M29 => ?_)
            refine ts_cm0_eq C rfl 121 dX12_readsSp_114 rfl ?_ ?_
            · exact ts_sub [] rfl (H121 _)
            · refine ts_iconst C dX12_readsSp_117 1 rfl ?_
              refine ts_goto C 122 dX12_readsSp_118 rfl ?_
              exact ts_sub [] rfl (H122 _ _)
  · refine ts_aload_n C dX12_readsSp_9 rfl 0 rfl ?_
    refine ts_bipush C dX12_readsSp_10 111 tb_111 ?_
    refine ts_callVi C [ts_v 111] (mX12_reads hl) kX12_reads q_2521 (by decide) shX12 rfl rfl rfl (Nat.le_of_ble_eq_true rfl) ⟨Nat.le_of_ble_eq_true rfl, Nat.le_of_ble_eq_true rfl⟩ ⟨Nat.le_of_ble_eq_true rfl, Nat.le_of_ble_eq_true rfl⟩ dX12_readsSp_12 (fun r32 M31 => ?_)
    refine ts_cm0_eq C rfl 65 dX12_readsSp_15 rfl ?_ ?_
    · exact ts_sub [] rfl (H65 _)
    · refine ts_aload_n C dX12_readsSp_18 rfl 0 rfl ?_
      refine ts_bipush C dX12_readsSp_19 110 tb_110 ?_
      refine ts_callVi C [ts_v 110] (mX12_reads hl) kX12_reads q_2521 (by decide) shX12 rfl rfl rfl (Nat.le_of_ble_eq_true rfl) ⟨Nat.le_of_ble_eq_true rfl, Nat.le_of_ble_eq_true rfl⟩ ⟨Nat.le_of_ble_eq_true rfl, Nat.le_of_ble_eq_true rfl⟩ dX12_readsSp_21 (fun r34 M33 => ?_)
      refine ts_cm0_eq C rfl 65 dX12_readsSp_24 rfl ?_ ?_
      · exact ts_sub [] rfl (H65 _)
      · refine ts_aload_n C dX12_readsSp_27 rfl 0 rfl ?_
        refine ts_bipush C dX12_readsSp_28 32 tb_32 ?_
        refine ts_callVi C [ts_v 32] (mX12_reads hl) kX12_reads q_2521 (by decide) shX12 rfl rfl rfl (Nat.le_of_ble_eq_true rfl) ⟨Nat.le_of_ble_eq_true rfl, Nat.le_of_ble_eq_true rfl⟩ ⟨Nat.le_of_ble_eq_true rfl, Nat.le_of_ble_eq_true rfl⟩ dX12_readsSp_30 (fun r36 M35 => ?_)
        refine ts_cm0_eq C rfl 65 dX12_readsSp_33 rfl ?_ ?_
        · exact ts_sub [] rfl (H65 _)
        · refine ts_aload_n C dX12_readsSp_36 rfl 0 rfl ?_
          refine ts_iconst C dX12_readsSp_37 0 rfl ?_
          refine ts_callVi C [ts_v 0] (mX12_readsDigit hl) kX12_readsDigit q_2533 (by decide) shX12 rfl rfl rfl (Nat.le_of_ble_eq_true rfl) ⟨Nat.le_of_ble_eq_true rfl, Nat.le_of_ble_eq_true rfl⟩ ⟨Nat.le_of_ble_eq_true rfl, Nat.le_of_ble_eq_true rfl⟩ dX12_readsSp_38 (fun r38 M37 => ?_)
          refine ts_cm0_eq C rfl 65 dX12_readsSp_41 rfl ?_ ?_
          · exact ts_sub [] rfl (H65 _)
          · refine ts_aload_n C dX12_readsSp_44 rfl 0 rfl ?_
            refine ts_bipush C dX12_readsSp_45 32 tb_32 ?_
            refine ts_callVi C [ts_v 32] (mX12_reads hl) kX12_reads q_2521 (by decide) shX12 rfl rfl rfl (Nat.le_of_ble_eq_true rfl) ⟨Nat.le_of_ble_eq_true rfl, Nat.le_of_ble_eq_true rfl⟩ ⟨Nat.le_of_ble_eq_true rfl, Nat.le_of_ble_eq_true rfl⟩ dX12_readsSp_47 (fun r40 M39 => ?_)
            refine ts_cm0_eq C rfl 65 dX12_readsSp_50 rfl ?_ ?_
            · exact ts_sub [] rfl (H65 _)
            · refine ts_aload_n C dX12_readsSp_53 rfl 0 rfl ?_
              refine ts_iconst C dX12_readsSp_54 1 rfl ?_
              refine ts_callVi C [ts_v 1] (mX12_readsNumber hl) kX12_readsNumber q_2537 (by decide) shX12 rfl rfl rfl (Nat.le_of_ble_eq_true rfl) ⟨Nat.le_of_ble_eq_true rfl, Nat.le_of_ble_eq_true rfl⟩ ⟨Nat.le_of_ble_eq_true rfl, Nat.le_of_ble_eq_true rfl⟩ dX12_readsSp_55 (fun r42 M41 => ?_)
              refine ts_cm0_eq C rfl 65 dX12_readsSp_58 rfl ?_ ?_
              · exact ts_sub [] rfl (H65 _)
              · refine ts_iconst C dX12_readsSp_61 1 rfl ?_
                refine ts_goto C 66 dX12_readsSp_62 rfl ?_
                exact ts_sub [] rfl (H66 _ _)
def wX12_readsS_B95   (Q : Int → ts_M → Prop)  (z0 : Int) (M : ts_M) : Prop :=
  ((ts_w z0 = 0 ∨ ts_w z0 = 1) ∧ Q z0 M)
def wX12_readsS_B94   (Q : Int → ts_M → Prop)   (M : ts_M) : Prop :=
  wX12_readsS_B95 Q 0 M
def wX12_readsS (Q : Int → ts_M → Prop) (M : ts_M) : Prop :=
  (wX12_reads 112 (fun r2 M1 => ((ts_w r2 = 0 → (∀ M3, M3 = ts_si M1 164 19 117 → (wX12_reads 117 (fun r5 M4 => ((ts_w r5 = 0 → wX12_readsS_B94 Q M4) ∧ (¬ (ts_w r5 = 0) → (wX12_reads 103 (fun r7 M6 => ((ts_w r7 = 0 → wX12_readsS_B94 Q M6) ∧ (¬ (ts_w r7 = 0) → (wX12_reads 97 (fun r9 M8 => ((ts_w r9 = 0 → wX12_readsS_B94 Q M8) ∧ (¬ (ts_w r9 = 0) → (wX12_reads 114 (fun r11 M10 => ((ts_w r11 = 0 → wX12_readsS_B94 Q M10) ∧ (¬ (ts_w r11 = 0) → (wX12_reads 32 (fun r13 M12 => ((ts_w r13 = 0 → wX12_readsS_B94 Q M12) ∧ (¬ (ts_w r13 = 0) → (wX12_readsDigit 0 (fun r15 M14 => ((ts_w r15 = 0 → wX12_readsS_B94 Q M14) ∧ (¬ (ts_w r15 = 0) → (wX12_reads 32 (fun r17 M16 => ((ts_w r17 = 0 → wX12_readsS_B94 Q M16) ∧ (¬ (ts_w r17 = 0) → (wX12_readsDigit 1 (fun r19 M18 => ((ts_w r19 = 0 → wX12_readsS_B94 Q M18) ∧ (¬ (ts_w r19 = 0) → wX12_readsS_B95 Q 1 M18))) M16)))) M14)))) M12)))) M10)))) M8)))) M6)))) M4)))) M3))) ∧ (¬ (ts_w r2 = 0) → (wX12_readsSp  (fun r21 M20 => ((ts_w r21 = 0 ∨ ts_w r21 = 1) ∧ Q r21 M20)) M1)))) M)
set_option maxRecDepth 100000 in
set_option maxHeartbeats 4000000 in
theorem mX12_readsS {l : Launch} {g : ts_W} (hl : l.stackTraces = false) {Q : Int → ts_M → Prop} {M : ts_M} : wX12_readsS Q M → ts_Con l g yX12_readsS cX12_readsS 1 (some .boolean) 4 0 0 [.ref (ts_ad g 164)] M (ts_Ri Q) := by
  intro h0
  refine ts_Con.of hl (by decide) (Nat.le_of_ble_eq_true rfl) ?_
  intro p e s m args below meth c C
  have H95 : ∀ (z0 : Int) (M : ts_M), wX12_readsS_B95   Q z0 M → ts_V p l e (ts_rm 4 0 0) s m args below meth c g 1 0 0 (MQ below (ts_Q g (ts_Ri Q)) args s 0 0 (ts_A g)) 95 [] [ts_v z0] M := by
    intro  z0 M
    unfold wX12_readsS_B95
    exact ts_zreti C (Nat.zero_le _) (Nat.zero_le _) dX12_readsS_95
  have H94 : ∀  (M : ts_M), wX12_readsS_B94   Q  M → ts_V p l e (ts_rm 4 0 0) s m args below meth c g 1 0 0 (MQ below (ts_Q g (ts_Ri Q)) args s 0 0 (ts_A g)) 94 [] [] M := by
    intro   M
    unfold wX12_readsS_B94
    refine ts_iconst C dX12_readsS_94 0 rfl ?_
    exact ts_sub [] rfl (H95 _ _)
  revert h0
  unfold wX12_readsS
  have hl0 : lv_args 0 [.ref (ts_ad g 164)] = [(0, .ref (ts_ad g 164))] := rfl
  rw [hl0]
  refine ts_aload_n C dX12_readsS_0 rfl 0 rfl ?_
  refine ts_bipush C dX12_readsS_1 112 tb_112 ?_
  refine ts_callVi C [ts_v 112] (mX12_reads hl) kX12_reads q_2521 (by decide) shX12 rfl rfl rfl (Nat.le_of_ble_eq_true rfl) ⟨Nat.le_of_ble_eq_true rfl, Nat.le_of_ble_eq_true rfl⟩ ⟨Nat.le_of_ble_eq_true rfl, Nat.le_of_ble_eq_true rfl⟩ dX12_readsS_3 (fun r2 M1 => ?_)
  refine ts_cm0_eq C rfl 14 dX12_readsS_6 rfl ?_ ?_
  · refine ts_aload_n C dX12_readsS_14 rfl 0 rfl ?_
    refine ts_bipush C dX12_readsS_15 117 tb_117 ?_
    refine tpX12_19 C q_1977 dX12_readsS_17 (fun M3 => ?_)
    refine ts_aload_n C dX12_readsS_20 rfl 0 rfl ?_
    refine ts_bipush C dX12_readsS_21 117 tb_117 ?_
    refine ts_callVi C [ts_v 117] (mX12_reads hl) kX12_reads q_2521 (by decide) shX12 rfl rfl rfl (Nat.le_of_ble_eq_true rfl) ⟨Nat.le_of_ble_eq_true rfl, Nat.le_of_ble_eq_true rfl⟩ ⟨Nat.le_of_ble_eq_true rfl, Nat.le_of_ble_eq_true rfl⟩ dX12_readsS_23 (fun r5 M4 => ?_)
    refine ts_cm0_eq C rfl 94 dX12_readsS_26 rfl ?_ ?_
    · exact ts_sub [] rfl (H94 _)
    · refine ts_aload_n C dX12_readsS_29 rfl 0 rfl ?_
      refine ts_bipush C dX12_readsS_30 103 tb_103 ?_
      refine ts_callVi C [ts_v 103] (mX12_reads hl) kX12_reads q_2521 (by decide) shX12 rfl rfl rfl (Nat.le_of_ble_eq_true rfl) ⟨Nat.le_of_ble_eq_true rfl, Nat.le_of_ble_eq_true rfl⟩ ⟨Nat.le_of_ble_eq_true rfl, Nat.le_of_ble_eq_true rfl⟩ dX12_readsS_32 (fun r7 M6 => ?_)
      refine ts_cm0_eq C rfl 94 dX12_readsS_35 rfl ?_ ?_
      · exact ts_sub [] rfl (H94 _)
      · refine ts_aload_n C dX12_readsS_38 rfl 0 rfl ?_
        refine ts_bipush C dX12_readsS_39 97 tb_97 ?_
        refine ts_callVi C [ts_v 97] (mX12_reads hl) kX12_reads q_2521 (by decide) shX12 rfl rfl rfl (Nat.le_of_ble_eq_true rfl) ⟨Nat.le_of_ble_eq_true rfl, Nat.le_of_ble_eq_true rfl⟩ ⟨Nat.le_of_ble_eq_true rfl, Nat.le_of_ble_eq_true rfl⟩ dX12_readsS_41 (fun r9 M8 => ?_)
        refine ts_cm0_eq C rfl 94 dX12_readsS_44 rfl ?_ ?_
        · exact ts_sub [] rfl (H94 _)
        · refine ts_aload_n C dX12_readsS_47 rfl 0 rfl ?_
          refine ts_bipush C dX12_readsS_48 114 tb_114 ?_
          refine ts_callVi C [ts_v 114] (mX12_reads hl) kX12_reads q_2521 (by decide) shX12 rfl rfl rfl (Nat.le_of_ble_eq_true rfl) ⟨Nat.le_of_ble_eq_true rfl, Nat.le_of_ble_eq_true rfl⟩ ⟨Nat.le_of_ble_eq_true rfl, Nat.le_of_ble_eq_true rfl⟩ dX12_readsS_50 (fun r11 M10 => ?_)
          refine ts_cm0_eq C rfl 94 dX12_readsS_53 rfl ?_ ?_
          · exact ts_sub [] rfl (H94 _)
          · refine ts_aload_n C dX12_readsS_56 rfl 0 rfl ?_
            refine ts_bipush C dX12_readsS_57 32 tb_32 ?_
            refine ts_callVi C [ts_v 32] (mX12_reads hl) kX12_reads q_2521 (by decide) shX12 rfl rfl rfl (Nat.le_of_ble_eq_true rfl) ⟨Nat.le_of_ble_eq_true rfl, Nat.le_of_ble_eq_true rfl⟩ ⟨Nat.le_of_ble_eq_true rfl, Nat.le_of_ble_eq_true rfl⟩ dX12_readsS_59 (fun r13 M12 => ?_)
            refine ts_cm0_eq C rfl 94 dX12_readsS_62 rfl ?_ ?_
            · exact ts_sub [] rfl (H94 _)
            · refine ts_aload_n C dX12_readsS_65 rfl 0 rfl ?_
              refine ts_iconst C dX12_readsS_66 0 rfl ?_
              refine ts_callVi C [ts_v 0] (mX12_readsDigit hl) kX12_readsDigit q_2533 (by decide) shX12 rfl rfl rfl (Nat.le_of_ble_eq_true rfl) ⟨Nat.le_of_ble_eq_true rfl, Nat.le_of_ble_eq_true rfl⟩ ⟨Nat.le_of_ble_eq_true rfl, Nat.le_of_ble_eq_true rfl⟩ dX12_readsS_67 (fun r15 M14 => ?_)
              refine ts_cm0_eq C rfl 94 dX12_readsS_70 rfl ?_ ?_
              · exact ts_sub [] rfl (H94 _)
              · refine ts_aload_n C dX12_readsS_73 rfl 0 rfl ?_
                refine ts_bipush C dX12_readsS_74 32 tb_32 ?_
                refine ts_callVi C [ts_v 32] (mX12_reads hl) kX12_reads q_2521 (by decide) shX12 rfl rfl rfl (Nat.le_of_ble_eq_true rfl) ⟨Nat.le_of_ble_eq_true rfl, Nat.le_of_ble_eq_true rfl⟩ ⟨Nat.le_of_ble_eq_true rfl, Nat.le_of_ble_eq_true rfl⟩ dX12_readsS_76 (fun r17 M16 => ?_)
                refine ts_cm0_eq C rfl 94 dX12_readsS_79 rfl ?_ ?_
                · exact ts_sub [] rfl (H94 _)
                · refine ts_aload_n C dX12_readsS_82 rfl 0 rfl ?_
                  refine ts_iconst C dX12_readsS_83 1 rfl ?_
                  refine ts_callVi C [ts_v 1] (mX12_readsDigit hl) kX12_readsDigit q_2533 (by decide) shX12 rfl rfl rfl (Nat.le_of_ble_eq_true rfl) ⟨Nat.le_of_ble_eq_true rfl, Nat.le_of_ble_eq_true rfl⟩ ⟨Nat.le_of_ble_eq_true rfl, Nat.le_of_ble_eq_true rfl⟩ dX12_readsS_84 (fun r19 M18 => ?_)
                  refine ts_cm0_eq C rfl 94 dX12_readsS_87 rfl ?_ ?_
                  · exact ts_sub [] rfl (H94 _)
                  · refine ts_iconst C dX12_readsS_90 1 rfl ?_
                    refine ts_goto C 95 dX12_readsS_91 rfl ?_
                    exact ts_sub [] rfl (H95 _ _)
  · refine ts_aload_n C dX12_readsS_9 rfl 0 rfl ?_
    refine ts_callVi C [] (mX12_readsSp hl) kX12_readsSp q_2529 (by decide) shX12 rfl rfl rfl (Nat.le_of_ble_eq_true rfl) ⟨Nat.le_of_ble_eq_true rfl, Nat.le_of_ble_eq_true rfl⟩ ⟨Nat.le_of_ble_eq_true rfl, Nat.le_of_ble_eq_true rfl⟩ dX12_readsS_10 (fun r21 M20 => ?_)
    exact ts_zreti C (Nat.zero_le _) (Nat.zero_le _) dX12_readsS_13
def wX12_readsP_B151   (Q : Int → ts_M → Prop)  (z0 : Int) (M : ts_M) : Prop :=
  ((ts_w z0 = 0 ∨ ts_w z0 = 1) ∧ Q z0 M)
def wX12_readsP_B150   (Q : Int → ts_M → Prop)   (M : ts_M) : Prop :=
  wX12_readsP_B151 Q 0 M
def wX12_readsP_B76   (Q : Int → ts_M → Prop)  (z0 : Int) (M : ts_M) : Prop :=
  ((ts_w z0 = 0 ∨ ts_w z0 = 1) ∧ Q z0 M)
def wX12_readsP_B75   (Q : Int → ts_M → Prop)   (M : ts_M) : Prop :=
  wX12_readsP_B76 Q 0 M
def wX12_readsP (Q : Int → ts_M → Prop) (M : ts_M) : Prop :=
  (wX12_reads 114 (fun r2 M1 => ((ts_w r2 = 0 → (∀ M3, M3 = ts_si M1 164 19 113 → (wX12_reads 111 (fun r5 M4 => ((ts_w r5 = 0 → wX12_readsP_B150 Q M4) ∧ (¬ (ts_w r5 = 0) → (wX12_reads 115 (fun r7 M6 => ((ts_w r7 = 0 → wX12_readsP_B150 Q M6) ∧ (¬ (ts_w r7 = 0) → (wX12_reads 116 (fun r9 M8 => ((ts_w r9 = 0 → wX12_readsP_B150 Q M8) ∧ (¬ (ts_w r9 = 0) → (wX12_reads 112 (fun r11 M10 => ((ts_w r11 = 0 → wX12_readsP_B150 Q M10) ∧ (¬ (ts_w r11 = 0) → (wX12_reads 111 (fun r13 M12 => ((ts_w r13 = 0 → wX12_readsP_B150 Q M12) ∧ (¬ (ts_w r13 = 0) → (wX12_reads 110 (fun r15 M14 => ((ts_w r15 = 0 → wX12_readsP_B150 Q M14) ∧ (¬ (ts_w r15 = 0) → (wX12_reads 101 (fun r17 M16 => ((ts_w r17 = 0 → wX12_readsP_B150 Q M16) ∧ (¬ (ts_w r17 = 0) → wX12_readsP_B151 Q 1 M16))) M14)))) M12)))) M10)))) M8)))) M6)))) M4)))) M3))) ∧ (¬ (ts_w r2 = 0) → (wX12_reads 111 (fun r19 M18 => ((ts_w r19 = 0 → wX12_readsP_B75 Q M18) ∧ (¬ (ts_w r19 = 0) → (wX12_reads 112 (fun r21 M20 => ((ts_w r21 = 0 → wX12_readsP_B75 Q M20) ∧ (¬ (ts_w r21 = 0) → (wX12_reads 111 (fun r23 M22 => ((ts_w r23 = 0 → wX12_readsP_B75 Q M22) ∧ (¬ (ts_w r23 = 0) → (wX12_reads 115 (fun r25 M24 => ((ts_w r25 = 0 → wX12_readsP_B75 Q M24) ∧ (¬ (ts_w r25 = 0) → (wX12_reads 101 (fun r27 M26 => ((ts_w r27 = 0 → wX12_readsP_B75 Q M26) ∧ (¬ (ts_w r27 = 0) → (wX12_reads 32 (fun r29 M28 => ((ts_w r29 = 0 → wX12_readsP_B75 Q M28) ∧ (¬ (ts_w r29 = 0) → (wX12_readsNumber 0 (fun r31 M30 => ((ts_w r31 = 0 → wX12_readsP_B75 Q M30) ∧ (¬ (ts_w r31 = 0) → wX12_readsP_B76 Q 1 M30))) M28)))) M26)))) M24)))) M22)))) M20)))) M18)))) M1)))) M)
set_option maxRecDepth 100000 in
set_option maxHeartbeats 4000000 in
theorem mX12_readsP {l : Launch} {g : ts_W} (hl : l.stackTraces = false) {Q : Int → ts_M → Prop} {M : ts_M} : wX12_readsP Q M → ts_Con l g yX12_readsP cX12_readsP 1 (some .boolean) 3 0 0 [.ref (ts_ad g 164)] M (ts_Ri Q) := by
  intro h0
  refine ts_Con.of hl (by decide) (Nat.le_of_ble_eq_true rfl) ?_
  intro p e s m args below meth c C
  have H151 : ∀ (z0 : Int) (M : ts_M), wX12_readsP_B151   Q z0 M → ts_V p l e (ts_rm 3 0 0) s m args below meth c g 1 0 0 (MQ below (ts_Q g (ts_Ri Q)) args s 0 0 (ts_A g)) 151 [] [ts_v z0] M := by
    intro  z0 M
    unfold wX12_readsP_B151
    exact ts_zreti C (Nat.zero_le _) (Nat.zero_le _) dX12_readsP_151
  have H150 : ∀  (M : ts_M), wX12_readsP_B150   Q  M → ts_V p l e (ts_rm 3 0 0) s m args below meth c g 1 0 0 (MQ below (ts_Q g (ts_Ri Q)) args s 0 0 (ts_A g)) 150 [] [] M := by
    intro   M
    unfold wX12_readsP_B150
    refine ts_iconst C dX12_readsP_150 0 rfl ?_
    exact ts_sub [] rfl (H151 _ _)
  have H76 : ∀ (z0 : Int) (M : ts_M), wX12_readsP_B76   Q z0 M → ts_V p l e (ts_rm 3 0 0) s m args below meth c g 1 0 0 (MQ below (ts_Q g (ts_Ri Q)) args s 0 0 (ts_A g)) 76 [] [ts_v z0] M := by
    intro  z0 M
    unfold wX12_readsP_B76
    exact ts_zreti C (Nat.zero_le _) (Nat.zero_le _) dX12_readsP_76
  have H75 : ∀  (M : ts_M), wX12_readsP_B75   Q  M → ts_V p l e (ts_rm 3 0 0) s m args below meth c g 1 0 0 (MQ below (ts_Q g (ts_Ri Q)) args s 0 0 (ts_A g)) 75 [] [] M := by
    intro   M
    unfold wX12_readsP_B75
    refine ts_iconst C dX12_readsP_75 0 rfl ?_
    exact ts_sub [] rfl (H76 _ _)
  revert h0
  unfold wX12_readsP
  have hl0 : lv_args 0 [.ref (ts_ad g 164)] = [(0, .ref (ts_ad g 164))] := rfl
  rw [hl0]
  refine ts_aload_n C dX12_readsP_0 rfl 0 rfl ?_
  refine ts_bipush C dX12_readsP_1 114 tb_114 ?_
  refine ts_callVi C [ts_v 114] (mX12_reads hl) kX12_reads q_2521 (by decide) shX12 rfl rfl rfl (Nat.le_of_ble_eq_true rfl) ⟨Nat.le_of_ble_eq_true rfl, Nat.le_of_ble_eq_true rfl⟩ ⟨Nat.le_of_ble_eq_true rfl, Nat.le_of_ble_eq_true rfl⟩ dX12_readsP_3 (fun r2 M1 => ?_)
  refine ts_cm0_eq C rfl 77 dX12_readsP_6 rfl ?_ ?_
  · refine ts_aload_n C dX12_readsP_77 rfl 0 rfl ?_
    refine ts_bipush C dX12_readsP_78 113 tb_113 ?_
    refine tpX12_19 C q_1977 dX12_readsP_80 (fun M3 => ?_)
    refine ts_aload_n C dX12_readsP_83 rfl 0 rfl ?_
    refine ts_bipush C dX12_readsP_84 111 tb_111 ?_
    refine ts_callVi C [ts_v 111] (mX12_reads hl) kX12_reads q_2521 (by decide) shX12 rfl rfl rfl (Nat.le_of_ble_eq_true rfl) ⟨Nat.le_of_ble_eq_true rfl, Nat.le_of_ble_eq_true rfl⟩ ⟨Nat.le_of_ble_eq_true rfl, Nat.le_of_ble_eq_true rfl⟩ dX12_readsP_86 (fun r5 M4 => ?_)
    refine ts_cm0_eq C rfl 150 dX12_readsP_89 rfl ?_ ?_
    · exact ts_sub [] rfl (H150 _)
    · refine ts_aload_n C dX12_readsP_92 rfl 0 rfl ?_
      refine ts_bipush C dX12_readsP_93 115 tb_115 ?_
      refine ts_callVi C [ts_v 115] (mX12_reads hl) kX12_reads q_2521 (by decide) shX12 rfl rfl rfl (Nat.le_of_ble_eq_true rfl) ⟨Nat.le_of_ble_eq_true rfl, Nat.le_of_ble_eq_true rfl⟩ ⟨Nat.le_of_ble_eq_true rfl, Nat.le_of_ble_eq_true rfl⟩ dX12_readsP_95 (fun r7 M6 => ?_)
      refine ts_cm0_eq C rfl 150 dX12_readsP_98 rfl ?_ ?_
      · exact ts_sub [] rfl (H150 _)
      · refine ts_aload_n C dX12_readsP_101 rfl 0 rfl ?_
        refine ts_bipush C dX12_readsP_102 116 tb_116 ?_
        refine ts_callVi C [ts_v 116] (mX12_reads hl) kX12_reads q_2521 (by decide) shX12 rfl rfl rfl (Nat.le_of_ble_eq_true rfl) ⟨Nat.le_of_ble_eq_true rfl, Nat.le_of_ble_eq_true rfl⟩ ⟨Nat.le_of_ble_eq_true rfl, Nat.le_of_ble_eq_true rfl⟩ dX12_readsP_104 (fun r9 M8 => ?_)
        refine ts_cm0_eq C rfl 150 dX12_readsP_107 rfl ?_ ?_
        · exact ts_sub [] rfl (H150 _)
        · refine ts_aload_n C dX12_readsP_110 rfl 0 rfl ?_
          refine ts_bipush C dX12_readsP_111 112 tb_112 ?_
          refine ts_callVi C [ts_v 112] (mX12_reads hl) kX12_reads q_2521 (by decide) shX12 rfl rfl rfl (Nat.le_of_ble_eq_true rfl) ⟨Nat.le_of_ble_eq_true rfl, Nat.le_of_ble_eq_true rfl⟩ ⟨Nat.le_of_ble_eq_true rfl, Nat.le_of_ble_eq_true rfl⟩ dX12_readsP_113 (fun r11 M10 => ?_)
          refine ts_cm0_eq C rfl 150 dX12_readsP_116 rfl ?_ ?_
          · exact ts_sub [] rfl (H150 _)
          · refine ts_aload_n C dX12_readsP_119 rfl 0 rfl ?_
            refine ts_bipush C dX12_readsP_120 111 tb_111 ?_
            refine ts_callVi C [ts_v 111] (mX12_reads hl) kX12_reads q_2521 (by decide) shX12 rfl rfl rfl (Nat.le_of_ble_eq_true rfl) ⟨Nat.le_of_ble_eq_true rfl, Nat.le_of_ble_eq_true rfl⟩ ⟨Nat.le_of_ble_eq_true rfl, Nat.le_of_ble_eq_true rfl⟩ dX12_readsP_122 (fun r13 M12 => ?_)
            refine ts_cm0_eq C rfl 150 dX12_readsP_125 rfl ?_ ?_
            · exact ts_sub [] rfl (H150 _)
            · refine ts_aload_n C dX12_readsP_128 rfl 0 rfl ?_
              refine ts_bipush C dX12_readsP_129 110 tb_110 ?_
              refine ts_callVi C [ts_v 110] (mX12_reads hl) kX12_reads q_2521 (by decide) shX12 rfl rfl rfl (Nat.le_of_ble_eq_true rfl) ⟨Nat.le_of_ble_eq_true rfl, Nat.le_of_ble_eq_true rfl⟩ ⟨Nat.le_of_ble_eq_true rfl, Nat.le_of_ble_eq_true rfl⟩ dX12_readsP_131 (fun r15 M14 => ?_)
              refine ts_cm0_eq C rfl 150 dX12_readsP_134 rfl ?_ ?_
              · exact ts_sub [] rfl (H150 _)
              · refine ts_aload_n C dX12_readsP_137 rfl 0 rfl ?_
                refine ts_bipush C dX12_readsP_138 101 tb_101 ?_
                refine ts_callVi C [ts_v 101] (mX12_reads hl) kX12_reads q_2521 (by decide) shX12 rfl rfl rfl (Nat.le_of_ble_eq_true rfl) ⟨Nat.le_of_ble_eq_true rfl, Nat.le_of_ble_eq_true rfl⟩ ⟨Nat.le_of_ble_eq_true rfl, Nat.le_of_ble_eq_true rfl⟩ dX12_readsP_140 (fun r17 M16 => ?_)
                refine ts_cm0_eq C rfl 150 dX12_readsP_143 rfl ?_ ?_
                · exact ts_sub [] rfl (H150 _)
                · refine ts_iconst C dX12_readsP_146 1 rfl ?_
                  refine ts_goto C 151 dX12_readsP_147 rfl ?_
                  exact ts_sub [] rfl (H151 _ _)
  · refine ts_aload_n C dX12_readsP_9 rfl 0 rfl ?_
    refine ts_bipush C dX12_readsP_10 111 tb_111 ?_
    refine ts_callVi C [ts_v 111] (mX12_reads hl) kX12_reads q_2521 (by decide) shX12 rfl rfl rfl (Nat.le_of_ble_eq_true rfl) ⟨Nat.le_of_ble_eq_true rfl, Nat.le_of_ble_eq_true rfl⟩ ⟨Nat.le_of_ble_eq_true rfl, Nat.le_of_ble_eq_true rfl⟩ dX12_readsP_12 (fun r19 M18 => ?_)
    refine ts_cm0_eq C rfl 75 dX12_readsP_15 rfl ?_ ?_
    · exact ts_sub [] rfl (H75 _)
    · refine ts_aload_n C dX12_readsP_18 rfl 0 rfl ?_
      refine ts_bipush C dX12_readsP_19 112 tb_112 ?_
      refine ts_callVi C [ts_v 112] (mX12_reads hl) kX12_reads q_2521 (by decide) shX12 rfl rfl rfl (Nat.le_of_ble_eq_true rfl) ⟨Nat.le_of_ble_eq_true rfl, Nat.le_of_ble_eq_true rfl⟩ ⟨Nat.le_of_ble_eq_true rfl, Nat.le_of_ble_eq_true rfl⟩ dX12_readsP_21 (fun r21 M20 => ?_)
      refine ts_cm0_eq C rfl 75 dX12_readsP_24 rfl ?_ ?_
      · exact ts_sub [] rfl (H75 _)
      · refine ts_aload_n C dX12_readsP_27 rfl 0 rfl ?_
        refine ts_bipush C dX12_readsP_28 111 tb_111 ?_
        refine ts_callVi C [ts_v 111] (mX12_reads hl) kX12_reads q_2521 (by decide) shX12 rfl rfl rfl (Nat.le_of_ble_eq_true rfl) ⟨Nat.le_of_ble_eq_true rfl, Nat.le_of_ble_eq_true rfl⟩ ⟨Nat.le_of_ble_eq_true rfl, Nat.le_of_ble_eq_true rfl⟩ dX12_readsP_30 (fun r23 M22 => ?_)
        refine ts_cm0_eq C rfl 75 dX12_readsP_33 rfl ?_ ?_
        · exact ts_sub [] rfl (H75 _)
        · refine ts_aload_n C dX12_readsP_36 rfl 0 rfl ?_
          refine ts_bipush C dX12_readsP_37 115 tb_115 ?_
          refine ts_callVi C [ts_v 115] (mX12_reads hl) kX12_reads q_2521 (by decide) shX12 rfl rfl rfl (Nat.le_of_ble_eq_true rfl) ⟨Nat.le_of_ble_eq_true rfl, Nat.le_of_ble_eq_true rfl⟩ ⟨Nat.le_of_ble_eq_true rfl, Nat.le_of_ble_eq_true rfl⟩ dX12_readsP_39 (fun r25 M24 => ?_)
          refine ts_cm0_eq C rfl 75 dX12_readsP_42 rfl ?_ ?_
          · exact ts_sub [] rfl (H75 _)
          · refine ts_aload_n C dX12_readsP_45 rfl 0 rfl ?_
            refine ts_bipush C dX12_readsP_46 101 tb_101 ?_
            refine ts_callVi C [ts_v 101] (mX12_reads hl) kX12_reads q_2521 (by decide) shX12 rfl rfl rfl (Nat.le_of_ble_eq_true rfl) ⟨Nat.le_of_ble_eq_true rfl, Nat.le_of_ble_eq_true rfl⟩ ⟨Nat.le_of_ble_eq_true rfl, Nat.le_of_ble_eq_true rfl⟩ dX12_readsP_48 (fun r27 M26 => ?_)
            refine ts_cm0_eq C rfl 75 dX12_readsP_51 rfl ?_ ?_
            · exact ts_sub [] rfl (H75 _)
            · refine ts_aload_n C dX12_readsP_54 rfl 0 rfl ?_
              refine ts_bipush C dX12_readsP_55 32 tb_32 ?_
              refine ts_callVi C [ts_v 32] (mX12_reads hl) kX12_reads q_2521 (by decide) shX12 rfl rfl rfl (Nat.le_of_ble_eq_true rfl) ⟨Nat.le_of_ble_eq_true rfl, Nat.le_of_ble_eq_true rfl⟩ ⟨Nat.le_of_ble_eq_true rfl, Nat.le_of_ble_eq_true rfl⟩ dX12_readsP_57 (fun r29 M28 => ?_)
              refine ts_cm0_eq C rfl 75 dX12_readsP_60 rfl ?_ ?_
              · exact ts_sub [] rfl (H75 _)
              · refine ts_aload_n C dX12_readsP_63 rfl 0 rfl ?_
                refine ts_iconst C dX12_readsP_64 0 rfl ?_
                refine ts_callVi C [ts_v 0] (mX12_readsNumber hl) kX12_readsNumber q_2537 (by decide) shX12 rfl rfl rfl (Nat.le_of_ble_eq_true rfl) ⟨Nat.le_of_ble_eq_true rfl, Nat.le_of_ble_eq_true rfl⟩ ⟨Nat.le_of_ble_eq_true rfl, Nat.le_of_ble_eq_true rfl⟩ dX12_readsP_65 (fun r31 M30 => ?_)
                refine ts_cm0_eq C rfl 75 dX12_readsP_68 rfl ?_ ?_
                · exact ts_sub [] rfl (H75 _)
                · refine ts_iconst C dX12_readsP_71 1 rfl ?_
                  refine ts_goto C 76 dX12_readsP_72 rfl ?_
                  exact ts_sub [] rfl (H76 _ _)
