def wX12_readsM_B97   (Q : Int → ts_M → Prop)  (z0 : Int) (M : ts_M) : Prop :=
  ((ts_w z0 = 0 ∨ ts_w z0 = 1) ∧ Q z0 M)
def wX12_readsM_B96   (Q : Int → ts_M → Prop)   (M : ts_M) : Prop :=
  wX12_readsM_B97 Q 0 M
def wX12_readsM_B51   (Q : Int → ts_M → Prop)  (z0 : Int) (M : ts_M) : Prop :=
  ((ts_w z0 = 0 ∨ ts_w z0 = 1) ∧ Q z0 M)
def wX12_readsM_B50   (Q : Int → ts_M → Prop)   (M : ts_M) : Prop :=
  wX12_readsM_B51 Q 0 M
def wX12_readsM (Q : Int → ts_M → Prop) (M : ts_M) : Prop :=
  (wX12_reads 111 (fun r2 M1 => ((¬ (ts_w r2 = 0) → (wX12_reads 118 (fun r4 M3 => ((ts_w r4 = 0 → (∀ M5, M5 = ts_si M3 164 19 100 → (wX12_reads 112 (fun r7 M6 => ((ts_w r7 = 0 → wX12_readsM_B96 Q M6) ∧ (¬ (ts_w r7 = 0) → (wX12_reads 32 (fun r9 M8 => ((ts_w r9 = 0 → wX12_readsM_B96 Q M8) ∧ (¬ (ts_w r9 = 0) → (wX12_readsDigit 0 (fun r11 M10 => ((ts_w r11 = 0 → wX12_readsM_B96 Q M10) ∧ (¬ (ts_w r11 = 0) → (wX12_readsDigit 1 (fun r13 M12 => ((ts_w r13 = 0 → wX12_readsM_B96 Q M12) ∧ (¬ (ts_w r13 = 0) → wX12_readsM_B97 Q 1 M12))) M10)))) M8)))) M6)))) M5))) ∧ (¬ (ts_w r4 = 0) → (wX12_reads 101 (fun r15 M14 => ((ts_w r15 = 0 → wX12_readsM_B50 Q M14) ∧ (¬ (ts_w r15 = 0) → (wX12_reads 32 (fun r17 M16 => ((ts_w r17 = 0 → wX12_readsM_B50 Q M16) ∧ (¬ (ts_w r17 = 0) → (wX12_readsNumber 0 (fun r19 M18 => ((ts_w r19 = 0 → wX12_readsM_B50 Q M18) ∧ (¬ (ts_w r19 = 0) → wX12_readsM_B51 Q 1 M18))) M16)))) M14)))) M3)))) M1)) ∧ (ts_w r2 = 0 → Q 0 M1))) M)
set_option maxRecDepth 100000 in
set_option maxHeartbeats 4000000 in
theorem mX12_readsM {l : Launch} {g : ts_W} (hl : l.stackTraces = false) {Q : Int → ts_M → Prop} {M : ts_M} : wX12_readsM Q M → ts_Con l g yX12_readsM cX12_readsM 1 (some .boolean) 3 0 0 [.ref (ts_ad g 164)] M (ts_Ri Q) := by
  intro h0
  refine ts_Con.of hl (by decide) (Nat.le_of_ble_eq_true rfl) ?_
  intro p e s m args below meth c C
  have H97 : ∀ (z0 : Int) (M : ts_M), wX12_readsM_B97   Q z0 M → ts_V p l e (ts_rm 3 0 0) s m args below meth c g 1 0 0 (MQ below (ts_Q g (ts_Ri Q)) args s 0 0 (ts_A g)) 97 [] [ts_v z0] M := by
    intro  z0 M
    unfold wX12_readsM_B97
    exact ts_zreti C (Nat.zero_le _) (Nat.zero_le _) dX12_readsM_97
  have H96 : ∀  (M : ts_M), wX12_readsM_B96   Q  M → ts_V p l e (ts_rm 3 0 0) s m args below meth c g 1 0 0 (MQ below (ts_Q g (ts_Ri Q)) args s 0 0 (ts_A g)) 96 [] [] M := by
    intro   M
    unfold wX12_readsM_B96
    refine ts_iconst C dX12_readsM_96 0 rfl ?_
    exact ts_sub [] rfl (H97 _ _)
  have H51 : ∀ (z0 : Int) (M : ts_M), wX12_readsM_B51   Q z0 M → ts_V p l e (ts_rm 3 0 0) s m args below meth c g 1 0 0 (MQ below (ts_Q g (ts_Ri Q)) args s 0 0 (ts_A g)) 51 [] [ts_v z0] M := by
    intro  z0 M
    unfold wX12_readsM_B51
    exact ts_zreti C (Nat.zero_le _) (Nat.zero_le _) dX12_readsM_51
  have H50 : ∀  (M : ts_M), wX12_readsM_B50   Q  M → ts_V p l e (ts_rm 3 0 0) s m args below meth c g 1 0 0 (MQ below (ts_Q g (ts_Ri Q)) args s 0 0 (ts_A g)) 50 [] [] M := by
    intro   M
    unfold wX12_readsM_B50
    refine ts_iconst C dX12_readsM_50 0 rfl ?_
    exact ts_sub [] rfl (H51 _ _)
  revert h0
  unfold wX12_readsM
  have hl0 : lv_args 0 [.ref (ts_ad g 164)] = [(0, .ref (ts_ad g 164))] := rfl
  rw [hl0]
  refine ts_aload_n C dX12_readsM_0 rfl 0 rfl ?_
  refine ts_bipush C dX12_readsM_1 111 tb_111 ?_
  refine ts_callVi C [ts_v 111] (mX12_reads hl) kX12_reads q_2521 (by decide) shX12 rfl rfl rfl (Nat.le_of_ble_eq_true rfl) ⟨Nat.le_of_ble_eq_true rfl, Nat.le_of_ble_eq_true rfl⟩ ⟨Nat.le_of_ble_eq_true rfl, Nat.le_of_ble_eq_true rfl⟩ dX12_readsM_3 (fun r2 M1 => ?_)
  refine ts_cm0_ne C rfl 11 dX12_readsM_6 rfl ?_ ?_
  · refine ts_aload_n C dX12_readsM_11 rfl 0 rfl ?_
    refine ts_bipush C dX12_readsM_12 118 tb_118 ?_
    refine ts_callVi C [ts_v 118] (mX12_reads hl) kX12_reads q_2521 (by decide) shX12 rfl rfl rfl (Nat.le_of_ble_eq_true rfl) ⟨Nat.le_of_ble_eq_true rfl, Nat.le_of_ble_eq_true rfl⟩ ⟨Nat.le_of_ble_eq_true rfl, Nat.le_of_ble_eq_true rfl⟩ dX12_readsM_14 (fun r4 M3 => ?_)
    refine ts_cm0_eq C rfl 52 dX12_readsM_17 rfl ?_ ?_
    · refine ts_aload_n C dX12_readsM_52 rfl 0 rfl ?_
      refine ts_bipush C dX12_readsM_53 100 tb_100 ?_
      refine tpX12_19 C q_1977 dX12_readsM_55 (fun M5 => ?_)
      refine ts_aload_n C dX12_readsM_58 rfl 0 rfl ?_
      refine ts_bipush C dX12_readsM_59 112 tb_112 ?_
      refine ts_callVi C [ts_v 112] (mX12_reads hl) kX12_reads q_2521 (by decide) shX12 rfl rfl rfl (Nat.le_of_ble_eq_true rfl) ⟨Nat.le_of_ble_eq_true rfl, Nat.le_of_ble_eq_true rfl⟩ ⟨Nat.le_of_ble_eq_true rfl, Nat.le_of_ble_eq_true rfl⟩ dX12_readsM_61 (fun r7 M6 => ?_)
      refine ts_cm0_eq C rfl 96 dX12_readsM_64 rfl ?_ ?_
      · exact ts_sub [] rfl (H96 _)
      · refine ts_aload_n C dX12_readsM_67 rfl 0 rfl ?_
        refine ts_bipush C dX12_readsM_68 32 tb_32 ?_
        refine ts_callVi C [ts_v 32] (mX12_reads hl) kX12_reads q_2521 (by decide) shX12 rfl rfl rfl (Nat.le_of_ble_eq_true rfl) ⟨Nat.le_of_ble_eq_true rfl, Nat.le_of_ble_eq_true rfl⟩ ⟨Nat.le_of_ble_eq_true rfl, Nat.le_of_ble_eq_true rfl⟩ dX12_readsM_70 (fun r9 M8 => ?_)
        refine ts_cm0_eq C rfl 96 dX12_readsM_73 rfl ?_ ?_
        · exact ts_sub [] rfl (H96 _)
        · refine ts_aload_n C dX12_readsM_76 rfl 0 rfl ?_
          refine ts_iconst C dX12_readsM_77 0 rfl ?_
          refine ts_callVi C [ts_v 0] (mX12_readsDigit hl) kX12_readsDigit q_2533 (by decide) shX12 rfl rfl rfl (Nat.le_of_ble_eq_true rfl) ⟨Nat.le_of_ble_eq_true rfl, Nat.le_of_ble_eq_true rfl⟩ ⟨Nat.le_of_ble_eq_true rfl, Nat.le_of_ble_eq_true rfl⟩ dX12_readsM_78 (fun r11 M10 => ?_)
          refine ts_cm0_eq C rfl 96 dX12_readsM_81 rfl ?_ ?_
          · exact ts_sub [] rfl (H96 _)
          · refine ts_aload_n C dX12_readsM_84 rfl 0 rfl ?_
            refine ts_iconst C dX12_readsM_85 1 rfl ?_
            refine ts_callVi C [ts_v 1] (mX12_readsDigit hl) kX12_readsDigit q_2533 (by decide) shX12 rfl rfl rfl (Nat.le_of_ble_eq_true rfl) ⟨Nat.le_of_ble_eq_true rfl, Nat.le_of_ble_eq_true rfl⟩ ⟨Nat.le_of_ble_eq_true rfl, Nat.le_of_ble_eq_true rfl⟩ dX12_readsM_86 (fun r13 M12 => ?_)
            refine ts_cm0_eq C rfl 96 dX12_readsM_89 rfl ?_ ?_
            · exact ts_sub [] rfl (H96 _)
            · refine ts_iconst C dX12_readsM_92 1 rfl ?_
              refine ts_goto C 97 dX12_readsM_93 rfl ?_
              exact ts_sub [] rfl (H97 _ _)
    · refine ts_aload_n C dX12_readsM_20 rfl 0 rfl ?_
      refine ts_bipush C dX12_readsM_21 101 tb_101 ?_
      refine ts_callVi C [ts_v 101] (mX12_reads hl) kX12_reads q_2521 (by decide) shX12 rfl rfl rfl (Nat.le_of_ble_eq_true rfl) ⟨Nat.le_of_ble_eq_true rfl, Nat.le_of_ble_eq_true rfl⟩ ⟨Nat.le_of_ble_eq_true rfl, Nat.le_of_ble_eq_true rfl⟩ dX12_readsM_23 (fun r15 M14 => ?_)
      refine ts_cm0_eq C rfl 50 dX12_readsM_26 rfl ?_ ?_
      · exact ts_sub [] rfl (H50 _)
      · refine ts_aload_n C dX12_readsM_29 rfl 0 rfl ?_
        refine ts_bipush C dX12_readsM_30 32 tb_32 ?_
        refine ts_callVi C [ts_v 32] (mX12_reads hl) kX12_reads q_2521 (by decide) shX12 rfl rfl rfl (Nat.le_of_ble_eq_true rfl) ⟨Nat.le_of_ble_eq_true rfl, Nat.le_of_ble_eq_true rfl⟩ ⟨Nat.le_of_ble_eq_true rfl, Nat.le_of_ble_eq_true rfl⟩ dX12_readsM_32 (fun r17 M16 => ?_)
        refine ts_cm0_eq C rfl 50 dX12_readsM_35 rfl ?_ ?_
        · exact ts_sub [] rfl (H50 _)
        · refine ts_aload_n C dX12_readsM_38 rfl 0 rfl ?_
          refine ts_iconst C dX12_readsM_39 0 rfl ?_
          refine ts_callVi C [ts_v 0] (mX12_readsNumber hl) kX12_readsNumber q_2537 (by decide) shX12 rfl rfl rfl (Nat.le_of_ble_eq_true rfl) ⟨Nat.le_of_ble_eq_true rfl, Nat.le_of_ble_eq_true rfl⟩ ⟨Nat.le_of_ble_eq_true rfl, Nat.le_of_ble_eq_true rfl⟩ dX12_readsM_40 (fun r19 M18 => ?_)
          refine ts_cm0_eq C rfl 50 dX12_readsM_43 rfl ?_ ?_
          · exact ts_sub [] rfl (H50 _)
          · refine ts_iconst C dX12_readsM_46 1 rfl ?_
            refine ts_goto C 51 dX12_readsM_47 rfl ?_
            exact ts_sub [] rfl (H51 _ _)
  · refine ts_iconst C dX12_readsM_9 0 rfl ?_
    exact ts_zretci C (by decide) (Nat.zero_le _) (Nat.zero_le _) dX12_readsM_10
def wX12_readsA_B157   (Q : Int → ts_M → Prop)  (z0 : Int) (M : ts_M) : Prop :=
  ((ts_w z0 = 0 ∨ ts_w z0 = 1) ∧ Q z0 M)
def wX12_readsA_B156   (Q : Int → ts_M → Prop)   (M : ts_M) : Prop :=
  wX12_readsA_B157 Q 0 M
def wX12_readsA_B45   (Q : Int → ts_M → Prop)   (M : ts_M) : Prop :=
  Q 0 M
def wX12_readsA_B89   (Q : Int → ts_M → Prop)  (z0 : Int) (z1 : Int) (M : ts_M) : Prop :=
  ((0 ≤ ts_w z1 ∧ ts_w z1 < ((3 : Nat) : Int)) ∧ ∀ M29, M29 = ts_si M 174 (ts_w z1) z0 → Q 1 M29)
def wX12_readsA (Q : Int → ts_M → Prop) (M : ts_M) : Prop :=
  (wX12_reads 109 (fun r2 M1 => ((ts_w r2 = 0 → (∀ M3, M3 = ts_si M1 164 19 106 → (wX12_reads 100 (fun r5 M4 => ((ts_w r5 = 0 → wX12_readsA_B156 Q M4) ∧ (¬ (ts_w r5 = 0) → (wX12_reads 106 (fun r7 M6 => ((ts_w r7 = 0 → wX12_readsA_B156 Q M6) ∧ (¬ (ts_w r7 = 0) → (wX12_reads 111 (fun r9 M8 => ((ts_w r9 = 0 → wX12_readsA_B156 Q M8) ∧ (¬ (ts_w r9 = 0) → (wX12_reads 117 (fun r11 M10 => ((ts_w r11 = 0 → wX12_readsA_B156 Q M10) ∧ (¬ (ts_w r11 = 0) → (wX12_reads 114 (fun r13 M12 => ((ts_w r13 = 0 → wX12_readsA_B156 Q M12) ∧ (¬ (ts_w r13 = 0) → (wX12_reads 110 (fun r15 M14 => ((ts_w r15 = 0 → wX12_readsA_B156 Q M14) ∧ (¬ (ts_w r15 = 0) → wX12_readsA_B157 Q 1 M14))) M12)))) M10)))) M8)))) M6)))) M4)))) M3))) ∧ (¬ (ts_w r2 = 0) → (wX12_reads 101 (fun r17 M16 => ((ts_w r17 = 0 → wX12_readsA_B45 Q M16) ∧ (¬ (ts_w r17 = 0) → (wX12_reads 110 (fun r19 M18 => ((ts_w r19 = 0 → wX12_readsA_B45 Q M18) ∧ (¬ (ts_w r19 = 0) → (wX12_reads 100 (fun r21 M20 => ((ts_w r21 = 0 → wX12_readsA_B45 Q M20) ∧ (¬ (ts_w r21 = 0) → (wX12_reads 32 (fun r23 M22 => ((¬ (ts_w r23 = 0) → (wX12_reads 45 (fun r25 M24 => (∀ x26 : Int, x26 = r25 → (wX12_readsNumber 0 (fun r28 M27 => ((¬ (ts_w r28 = 0) → ((ts_w x26 = 0 → wX12_readsA_B89 Q (M27.1 174 0) 0 M27) ∧ (¬ (ts_w x26 = 0) → wX12_readsA_B89 Q (-(M27.1 174 0)) 0 M27))) ∧ (ts_w r28 = 0 → Q 0 M27))) M24))) M22)) ∧ (ts_w r23 = 0 → wX12_readsA_B45 Q M22))) M20)))) M18)))) M16)))) M1)))) M)
set_option maxRecDepth 100000 in
set_option maxHeartbeats 4000000 in
theorem mX12_readsA {l : Launch} {g : ts_W} (hl : l.stackTraces = false) {Q : Int → ts_M → Prop} {M : ts_M} : wX12_readsA Q M → ts_Con l g yX12_readsA cX12_readsA 2 (some .boolean) 3 0 0 [.ref (ts_ad g 164)] M (ts_Ri Q) := by
  intro h0
  refine ts_Con.of hl (by decide) (Nat.le_of_ble_eq_true rfl) ?_
  intro p e s m args below meth c C
  have H157 : ∀ (z0 : Int) (M : ts_M), wX12_readsA_B157   Q z0 M → ts_V p l e (ts_rm 3 0 0) s m args below meth c g 2 0 0 (MQ below (ts_Q g (ts_Ri Q)) args s 0 0 (ts_A g)) 157 [] [ts_v z0] M := by
    intro  z0 M
    unfold wX12_readsA_B157
    exact ts_zreti C (Nat.zero_le _) (Nat.zero_le _) dX12_readsA_157
  have H156 : ∀  (M : ts_M), wX12_readsA_B156   Q  M → ts_V p l e (ts_rm 3 0 0) s m args below meth c g 2 0 0 (MQ below (ts_Q g (ts_Ri Q)) args s 0 0 (ts_A g)) 156 [] [] M := by
    intro   M
    unfold wX12_readsA_B156
    refine ts_iconst C dX12_readsA_156 0 rfl ?_
    exact ts_sub [] rfl (H157 _ _)
  have H45 : ∀  (M : ts_M), wX12_readsA_B45   Q  M → ts_V p l e (ts_rm 3 0 0) s m args below meth c g 2 0 0 (MQ below (ts_Q g (ts_Ri Q)) args s 0 0 (ts_A g)) 45 [] [] M := by
    intro   M
    unfold wX12_readsA_B45
    refine ts_iconst C dX12_readsA_45 0 rfl ?_
    exact ts_zretci C (by decide) (Nat.zero_le _) (Nat.zero_le _) dX12_readsA_46
  have H89 : ∀ (z0 : Int) (z1 : Int) (M : ts_M), wX12_readsA_B89   Q z0 z1 M → ts_V p l e (ts_rm 3 0 0) s m args below meth c g 2 0 0 (MQ below (ts_Q g (ts_Ri Q)) args s 0 0 (ts_A g)) 89 [] [ts_v z0, ts_v z1, .ref (ts_ad g 174)] M := by
    intro  z0 z1 M
    unfold wX12_readsA_B89
    refine ts_iast C (by decide) shG174 dX12_readsA_89 (fun M29 => ?_)
    refine ts_iconst C dX12_readsA_90 1 rfl ?_
    exact ts_zretci C (by decide) (Nat.zero_le _) (Nat.zero_le _) dX12_readsA_91
  revert h0
  unfold wX12_readsA
  have hl0 : lv_args 0 [.ref (ts_ad g 164)] = [(0, .ref (ts_ad g 164))] := rfl
  rw [hl0]
  refine ts_aload_n C dX12_readsA_0 rfl 0 rfl ?_
  refine ts_bipush C dX12_readsA_1 109 tb_109 ?_
  refine ts_callVi C [ts_v 109] (mX12_reads hl) kX12_reads q_2521 (by decide) shX12 rfl rfl rfl (Nat.le_of_ble_eq_true rfl) ⟨Nat.le_of_ble_eq_true rfl, Nat.le_of_ble_eq_true rfl⟩ ⟨Nat.le_of_ble_eq_true rfl, Nat.le_of_ble_eq_true rfl⟩ dX12_readsA_3 (fun r2 M1 => ?_)
  refine ts_cm0_eq C rfl 92 dX12_readsA_6 rfl ?_ ?_
  · refine ts_aload_n C dX12_readsA_92 rfl 0 rfl ?_
    refine ts_bipush C dX12_readsA_93 106 tb_106 ?_
    refine tpX12_19 C q_1977 dX12_readsA_95 (fun M3 => ?_)
    refine ts_aload_n C dX12_readsA_98 rfl 0 rfl ?_
    refine ts_bipush C dX12_readsA_99 100 tb_100 ?_
    refine ts_callVi C [ts_v 100] (mX12_reads hl) kX12_reads q_2521 (by decide) shX12 rfl rfl rfl (Nat.le_of_ble_eq_true rfl) ⟨Nat.le_of_ble_eq_true rfl, Nat.le_of_ble_eq_true rfl⟩ ⟨Nat.le_of_ble_eq_true rfl, Nat.le_of_ble_eq_true rfl⟩ dX12_readsA_101 (fun r5 M4 => ?_)
    refine ts_cm0_eq C rfl 156 dX12_readsA_104 rfl ?_ ?_
    · exact ts_sub [] rfl (H156 _)
    · refine ts_aload_n C dX12_readsA_107 rfl 0 rfl ?_
      refine ts_bipush C dX12_readsA_108 106 tb_106 ?_
      refine ts_callVi C [ts_v 106] (mX12_reads hl) kX12_reads q_2521 (by decide) shX12 rfl rfl rfl (Nat.le_of_ble_eq_true rfl) ⟨Nat.le_of_ble_eq_true rfl, Nat.le_of_ble_eq_true rfl⟩ ⟨Nat.le_of_ble_eq_true rfl, Nat.le_of_ble_eq_true rfl⟩ dX12_readsA_110 (fun r7 M6 => ?_)
      refine ts_cm0_eq C rfl 156 dX12_readsA_113 rfl ?_ ?_
      · exact ts_sub [] rfl (H156 _)
      · refine ts_aload_n C dX12_readsA_116 rfl 0 rfl ?_
        refine ts_bipush C dX12_readsA_117 111 tb_111 ?_
        refine ts_callVi C [ts_v 111] (mX12_reads hl) kX12_reads q_2521 (by decide) shX12 rfl rfl rfl (Nat.le_of_ble_eq_true rfl) ⟨Nat.le_of_ble_eq_true rfl, Nat.le_of_ble_eq_true rfl⟩ ⟨Nat.le_of_ble_eq_true rfl, Nat.le_of_ble_eq_true rfl⟩ dX12_readsA_119 (fun r9 M8 => ?_)
        refine ts_cm0_eq C rfl 156 dX12_readsA_122 rfl ?_ ?_
        · exact ts_sub [] rfl (H156 _)
        · refine ts_aload_n C dX12_readsA_125 rfl 0 rfl ?_
          refine ts_bipush C dX12_readsA_126 117 tb_117 ?_
          refine ts_callVi C [ts_v 117] (mX12_reads hl) kX12_reads q_2521 (by decide) shX12 rfl rfl rfl (Nat.le_of_ble_eq_true rfl) ⟨Nat.le_of_ble_eq_true rfl, Nat.le_of_ble_eq_true rfl⟩ ⟨Nat.le_of_ble_eq_true rfl, Nat.le_of_ble_eq_true rfl⟩ dX12_readsA_128 (fun r11 M10 => ?_)
          refine ts_cm0_eq C rfl 156 dX12_readsA_131 rfl ?_ ?_
          · exact ts_sub [] rfl (H156 _)
          · refine ts_aload_n C dX12_readsA_134 rfl 0 rfl ?_
            refine ts_bipush C dX12_readsA_135 114 tb_114 ?_
            refine ts_callVi C [ts_v 114] (mX12_reads hl) kX12_reads q_2521 (by decide) shX12 rfl rfl rfl (Nat.le_of_ble_eq_true rfl) ⟨Nat.le_of_ble_eq_true rfl, Nat.le_of_ble_eq_true rfl⟩ ⟨Nat.le_of_ble_eq_true rfl, Nat.le_of_ble_eq_true rfl⟩ dX12_readsA_137 (fun r13 M12 => ?_)
            refine ts_cm0_eq C rfl 156 dX12_readsA_140 rfl ?_ ?_
            · exact ts_sub [] rfl (H156 _)
            · refine ts_aload_n C dX12_readsA_143 rfl 0 rfl ?_
              refine ts_bipush C dX12_readsA_144 110 tb_110 ?_
              refine ts_callVi C [ts_v 110] (mX12_reads hl) kX12_reads q_2521 (by decide) shX12 rfl rfl rfl (Nat.le_of_ble_eq_true rfl) ⟨Nat.le_of_ble_eq_true rfl, Nat.le_of_ble_eq_true rfl⟩ ⟨Nat.le_of_ble_eq_true rfl, Nat.le_of_ble_eq_true rfl⟩ dX12_readsA_146 (fun r15 M14 => ?_)
              refine ts_cm0_eq C rfl 156 dX12_readsA_149 rfl ?_ ?_
              · exact ts_sub [] rfl (H156 _)
              · refine ts_iconst C dX12_readsA_152 1 rfl ?_
                refine ts_goto C 157 dX12_readsA_153 rfl ?_
                exact ts_sub [] rfl (H157 _ _)
  · refine ts_aload_n C dX12_readsA_9 rfl 0 rfl ?_
    refine ts_bipush C dX12_readsA_10 101 tb_101 ?_
    refine ts_callVi C [ts_v 101] (mX12_reads hl) kX12_reads q_2521 (by decide) shX12 rfl rfl rfl (Nat.le_of_ble_eq_true rfl) ⟨Nat.le_of_ble_eq_true rfl, Nat.le_of_ble_eq_true rfl⟩ ⟨Nat.le_of_ble_eq_true rfl, Nat.le_of_ble_eq_true rfl⟩ dX12_readsA_12 (fun r17 M16 => ?_)
    refine ts_cm0_eq C rfl 45 dX12_readsA_15 rfl ?_ ?_
    · exact ts_sub [] rfl (H45 _)
    · refine ts_aload_n C dX12_readsA_18 rfl 0 rfl ?_
      refine ts_bipush C dX12_readsA_19 110 tb_110 ?_
      refine ts_callVi C [ts_v 110] (mX12_reads hl) kX12_reads q_2521 (by decide) shX12 rfl rfl rfl (Nat.le_of_ble_eq_true rfl) ⟨Nat.le_of_ble_eq_true rfl, Nat.le_of_ble_eq_true rfl⟩ ⟨Nat.le_of_ble_eq_true rfl, Nat.le_of_ble_eq_true rfl⟩ dX12_readsA_21 (fun r19 M18 => ?_)
      refine ts_cm0_eq C rfl 45 dX12_readsA_24 rfl ?_ ?_
      · exact ts_sub [] rfl (H45 _)
      · refine ts_aload_n C dX12_readsA_27 rfl 0 rfl ?_
        refine ts_bipush C dX12_readsA_28 100 tb_100 ?_
        refine ts_callVi C [ts_v 100] (mX12_reads hl) kX12_reads q_2521 (by decide) shX12 rfl rfl rfl (Nat.le_of_ble_eq_true rfl) ⟨Nat.le_of_ble_eq_true rfl, Nat.le_of_ble_eq_true rfl⟩ ⟨Nat.le_of_ble_eq_true rfl, Nat.le_of_ble_eq_true rfl⟩ dX12_readsA_30 (fun r21 M20 => ?_)
        refine ts_cm0_eq C rfl 45 dX12_readsA_33 rfl ?_ ?_
        · exact ts_sub [] rfl (H45 _)
        · refine ts_aload_n C dX12_readsA_36 rfl 0 rfl ?_
          refine ts_bipush C dX12_readsA_37 32 tb_32 ?_
          refine ts_callVi C [ts_v 32] (mX12_reads hl) kX12_reads q_2521 (by decide) shX12 rfl rfl rfl (Nat.le_of_ble_eq_true rfl) ⟨Nat.le_of_ble_eq_true rfl, Nat.le_of_ble_eq_true rfl⟩ ⟨Nat.le_of_ble_eq_true rfl, Nat.le_of_ble_eq_true rfl⟩ dX12_readsA_39 (fun r23 M22 => ?_)
          refine ts_cm0_ne C rfl 47 dX12_readsA_42 rfl ?_ ?_
          · refine ts_aload_n C dX12_readsA_47 rfl 0 rfl ?_
            refine ts_bipush C dX12_readsA_48 45 tb_45 ?_
            refine ts_callVi C [ts_v 45] (mX12_reads hl) kX12_reads q_2521 (by decide) shX12 rfl rfl rfl (Nat.le_of_ble_eq_true rfl) ⟨Nat.le_of_ble_eq_true rfl, Nat.le_of_ble_eq_true rfl⟩ ⟨Nat.le_of_ble_eq_true rfl, Nat.le_of_ble_eq_true rfl⟩ dX12_readsA_50 (fun r25 M24 => ?_)
            refine ts_istore_n C dX12_readsA_53 rfl (by decide) (lv' := fun x26 => [(1, ts_v x26), (0, .ref (ts_ad g 164))]) (fun _ => rfl) (fun x26 => ?_)
            refine ts_aload_n C dX12_readsA_54 rfl 1 rfl ?_
            refine ts_iconst C dX12_readsA_55 0 rfl ?_
            refine ts_callVi C [ts_v 0] (mX12_readsNumber hl) kX12_readsNumber q_2537 (by decide) shX12 rfl rfl rfl (Nat.le_of_ble_eq_true rfl) ⟨Nat.le_of_ble_eq_true rfl, Nat.le_of_ble_eq_true rfl⟩ ⟨Nat.le_of_ble_eq_true rfl, Nat.le_of_ble_eq_true rfl⟩ dX12_readsA_56 (fun r28 M27 => ?_)
            refine ts_cm0_ne C rfl 64 dX12_readsA_59 rfl ?_ ?_
            · refine ts_aload_n C dX12_readsA_64 rfl 1 rfl ?_
              refine tgX12_18 C q_1976 dX12_readsA_65 ?_
              refine ts_iconst C dX12_readsA_68 0 rfl ?_
              refine ts_iload_n C dX12_readsA_69 rfl 0 rfl ?_
              refine ts_cm0_eq C rfl 83 dX12_readsA_70 rfl ?_ ?_
              · refine ts_aload_n C dX12_readsA_83 rfl 1 rfl ?_
                refine tgX12_18 C q_1976 dX12_readsA_84 ?_
                refine ts_iconst C dX12_readsA_87 0 rfl ?_
                refine ts_ialdc C (by decide) shG174 tw_0 (by decide) dX12_readsA_88 ?_
                exact ts_sub [] rfl (H89 _ _ _)
              · refine ts_aload_n C dX12_readsA_73 rfl 1 rfl ?_
                refine tgX12_18 C q_1976 dX12_readsA_74 ?_
                refine ts_iconst C dX12_readsA_77 0 rfl ?_
                refine ts_ialdc C (by decide) shG174 tw_0 (by decide) dX12_readsA_78 ?_
                refine ts_ineg C dX12_readsA_79 ?_
                refine ts_goto C 89 dX12_readsA_80 rfl ?_
                exact ts_sub [] rfl (H89 _ _ _)
            · refine ts_iconst C dX12_readsA_62 0 rfl ?_
              exact ts_zretci C (by decide) (Nat.zero_le _) (Nat.zero_le _) dX12_readsA_63
          · exact ts_sub [] rfl (H45 _)
def wX12_readsCommand_B156   (Q : Int → ts_M → Prop)  (z0 : Int) (M : ts_M) : Prop :=
  ((ts_w z0 = 0 ∨ ts_w z0 = 1) ∧ Q z0 M)
def wX12_readsCommand_B155   (Q : Int → ts_M → Prop)   (M : ts_M) : Prop :=
  wX12_readsCommand_B156 Q 0 M
def wX12_readsCommand_B114   (Q : Int → ts_M → Prop)  (z0 : Int) (M : ts_M) : Prop :=
  ((ts_w z0 = 0 ∨ ts_w z0 = 1) ∧ Q z0 M)
def wX12_readsCommand_B113   (Q : Int → ts_M → Prop)   (M : ts_M) : Prop :=
  wX12_readsCommand_B114 Q 0 M
def wX12_readsCommand (Q : Int → ts_M → Prop) (M : ts_M) : Prop :=
  (wX12_nextChar  (fun r2 M1 => (∀ M3, M3 = ts_si M1 164 19 r2 → (wX12_reads 115 (fun r5 M4 => ((ts_w r5 = 0 → (wX12_reads 112 (fun r7 M6 => ((ts_w r7 = 0 → (wX12_reads 109 (fun r9 M8 => ((ts_w r9 = 0 → (wX12_reads 97 (fun r11 M10 => ((ts_w r11 = 0 → (wX12_reads 99 (fun r13 M12 => ((ts_w r13 = 0 → (wX12_reads 118 (fun r15 M14 => ((ts_w r15 = 0 → wX12_readsCommand_B155 Q M14) ∧ (¬ (ts_w r15 = 0) → (wX12_reads 111 (fun r17 M16 => ((ts_w r17 = 0 → wX12_readsCommand_B155 Q M16) ∧ (¬ (ts_w r17 = 0) → (wX12_reads 116 (fun r19 M18 => ((ts_w r19 = 0 → wX12_readsCommand_B155 Q M18) ∧ (¬ (ts_w r19 = 0) → (wX12_reads 101 (fun r21 M20 => ((ts_w r21 = 0 → wX12_readsCommand_B155 Q M20) ∧ (¬ (ts_w r21 = 0) → wX12_readsCommand_B156 Q 1 M20))) M18)))) M16)))) M14)))) M12)) ∧ (¬ (ts_w r13 = 0) → (wX12_reads 108 (fun r23 M22 => ((ts_w r23 = 0 → wX12_readsCommand_B113 Q M22) ∧ (¬ (ts_w r23 = 0) → (wX12_reads 111 (fun r25 M24 => ((ts_w r25 = 0 → wX12_readsCommand_B113 Q M24) ∧ (¬ (ts_w r25 = 0) → (wX12_reads 115 (fun r27 M26 => ((ts_w r27 = 0 → wX12_readsCommand_B113 Q M26) ∧ (¬ (ts_w r27 = 0) → (wX12_reads 101 (fun r29 M28 => ((ts_w r29 = 0 → wX12_readsCommand_B113 Q M28) ∧ (¬ (ts_w r29 = 0) → wX12_readsCommand_B114 Q 1 M28))) M26)))) M24)))) M22)))) M12)))) M10)) ∧ (¬ (ts_w r11 = 0) → (wX12_readsA  (fun r31 M30 => ((ts_w r31 = 0 ∨ ts_w r31 = 1) ∧ Q r31 M30)) M10)))) M8)) ∧ (¬ (ts_w r9 = 0) → (wX12_readsM  (fun r33 M32 => ((ts_w r33 = 0 ∨ ts_w r33 = 1) ∧ Q r33 M32)) M8)))) M6)) ∧ (¬ (ts_w r7 = 0) → (wX12_readsP  (fun r35 M34 => ((ts_w r35 = 0 ∨ ts_w r35 = 1) ∧ Q r35 M34)) M6)))) M4)) ∧ (¬ (ts_w r5 = 0) → (wX12_readsS  (fun r37 M36 => ((ts_w r37 = 0 ∨ ts_w r37 = 1) ∧ Q r37 M36)) M4)))) M3))) M)
set_option maxRecDepth 100000 in
set_option maxHeartbeats 4000000 in
theorem mX12_readsCommand {l : Launch} {g : ts_W} (hl : l.stackTraces = false) {Q : Int → ts_M → Prop} {M : ts_M} : wX12_readsCommand Q M → ts_Con l g yX12_readsCommand cX12_readsCommand 1 (some .boolean) 5 0 0 [.ref (ts_ad g 164)] M (ts_Ri Q) := by
  intro h0
  refine ts_Con.of hl (by decide) (Nat.le_of_ble_eq_true rfl) ?_
  intro p e s m args below meth c C
  have H156 : ∀ (z0 : Int) (M : ts_M), wX12_readsCommand_B156   Q z0 M → ts_V p l e (ts_rm 5 0 0) s m args below meth c g 1 0 0 (MQ below (ts_Q g (ts_Ri Q)) args s 0 0 (ts_A g)) 156 [] [ts_v z0] M := by
    intro  z0 M
    unfold wX12_readsCommand_B156
    exact ts_zreti C (Nat.zero_le _) (Nat.zero_le _) dX12_readsCommand_156
  have H155 : ∀  (M : ts_M), wX12_readsCommand_B155   Q  M → ts_V p l e (ts_rm 5 0 0) s m args below meth c g 1 0 0 (MQ below (ts_Q g (ts_Ri Q)) args s 0 0 (ts_A g)) 155 [] [] M := by
    intro   M
    unfold wX12_readsCommand_B155
    refine ts_iconst C dX12_readsCommand_155 0 rfl ?_
    exact ts_sub [] rfl (H156 _ _)
  have H114 : ∀ (z0 : Int) (M : ts_M), wX12_readsCommand_B114   Q z0 M → ts_V p l e (ts_rm 5 0 0) s m args below meth c g 1 0 0 (MQ below (ts_Q g (ts_Ri Q)) args s 0 0 (ts_A g)) 114 [] [ts_v z0] M := by
    intro  z0 M
    unfold wX12_readsCommand_B114
    exact ts_zreti C (Nat.zero_le _) (Nat.zero_le _) dX12_readsCommand_114
  have H113 : ∀  (M : ts_M), wX12_readsCommand_B113   Q  M → ts_V p l e (ts_rm 5 0 0) s m args below meth c g 1 0 0 (MQ below (ts_Q g (ts_Ri Q)) args s 0 0 (ts_A g)) 113 [] [] M := by
    intro   M
    unfold wX12_readsCommand_B113
    refine ts_iconst C dX12_readsCommand_113 0 rfl ?_
    exact ts_sub [] rfl (H114 _ _)
  revert h0
  unfold wX12_readsCommand
  have hl0 : lv_args 0 [.ref (ts_ad g 164)] = [(0, .ref (ts_ad g 164))] := rfl
  rw [hl0]
  refine ts_aload_n C dX12_readsCommand_0 rfl 0 rfl ?_
  refine ts_aload_n C dX12_readsCommand_1 rfl 0 rfl ?_
  refine ts_callVi C [] (mX12_nextChar hl) kX12_nextChar q_2517 (by decide) shX12 rfl rfl rfl (Nat.le_of_ble_eq_true rfl) ⟨Nat.le_of_ble_eq_true rfl, Nat.le_of_ble_eq_true rfl⟩ ⟨Nat.le_of_ble_eq_true rfl, Nat.le_of_ble_eq_true rfl⟩ dX12_readsCommand_2 (fun r2 M1 => ?_)
  refine tpX12_19 C q_1977 dX12_readsCommand_5 (fun M3 => ?_)
  refine ts_aload_n C dX12_readsCommand_8 rfl 0 rfl ?_
  refine ts_bipush C dX12_readsCommand_9 115 tb_115 ?_
  refine ts_callVi C [ts_v 115] (mX12_reads hl) kX12_reads q_2521 (by decide) shX12 rfl rfl rfl (Nat.le_of_ble_eq_true rfl) ⟨Nat.le_of_ble_eq_true rfl, Nat.le_of_ble_eq_true rfl⟩ ⟨Nat.le_of_ble_eq_true rfl, Nat.le_of_ble_eq_true rfl⟩ dX12_readsCommand_11 (fun r5 M4 => ?_)
  refine ts_cm0_eq C rfl 22 dX12_readsCommand_14 rfl ?_ ?_
  · refine ts_aload_n C dX12_readsCommand_22 rfl 0 rfl ?_
    refine ts_bipush C dX12_readsCommand_23 112 tb_112 ?_
    refine ts_callVi C [ts_v 112] (mX12_reads hl) kX12_reads q_2521 (by decide) shX12 rfl rfl rfl (Nat.le_of_ble_eq_true rfl) ⟨Nat.le_of_ble_eq_true rfl, Nat.le_of_ble_eq_true rfl⟩ ⟨Nat.le_of_ble_eq_true rfl, Nat.le_of_ble_eq_true rfl⟩ dX12_readsCommand_25 (fun r7 M6 => ?_)
    refine ts_cm0_eq C rfl 36 dX12_readsCommand_28 rfl ?_ ?_
    · refine ts_aload_n C dX12_readsCommand_36 rfl 0 rfl ?_
      refine ts_bipush C dX12_readsCommand_37 109 tb_109 ?_
      refine ts_callVi C [ts_v 109] (mX12_reads hl) kX12_reads q_2521 (by decide) shX12 rfl rfl rfl (Nat.le_of_ble_eq_true rfl) ⟨Nat.le_of_ble_eq_true rfl, Nat.le_of_ble_eq_true rfl⟩ ⟨Nat.le_of_ble_eq_true rfl, Nat.le_of_ble_eq_true rfl⟩ dX12_readsCommand_39 (fun r9 M8 => ?_)
      refine ts_cm0_eq C rfl 50 dX12_readsCommand_42 rfl ?_ ?_
      · refine ts_aload_n C dX12_readsCommand_50 rfl 0 rfl ?_
        refine ts_bipush C dX12_readsCommand_51 97 tb_97 ?_
        refine ts_callVi C [ts_v 97] (mX12_reads hl) kX12_reads q_2521 (by decide) shX12 rfl rfl rfl (Nat.le_of_ble_eq_true rfl) ⟨Nat.le_of_ble_eq_true rfl, Nat.le_of_ble_eq_true rfl⟩ ⟨Nat.le_of_ble_eq_true rfl, Nat.le_of_ble_eq_true rfl⟩ dX12_readsCommand_53 (fun r11 M10 => ?_)
        refine ts_cm0_eq C rfl 64 dX12_readsCommand_56 rfl ?_ ?_
        · refine ts_aload_n C dX12_readsCommand_64 rfl 0 rfl ?_
          refine ts_bipush C dX12_readsCommand_65 99 tb_99 ?_
          refine ts_callVi C [ts_v 99] (mX12_reads hl) kX12_reads q_2521 (by decide) shX12 rfl rfl rfl (Nat.le_of_ble_eq_true rfl) ⟨Nat.le_of_ble_eq_true rfl, Nat.le_of_ble_eq_true rfl⟩ ⟨Nat.le_of_ble_eq_true rfl, Nat.le_of_ble_eq_true rfl⟩ dX12_readsCommand_67 (fun r13 M12 => ?_)
          refine ts_cm0_eq C rfl 115 dX12_readsCommand_70 rfl ?_ ?_
          · refine ts_aload_n C dX12_readsCommand_115 rfl 0 rfl ?_
            refine ts_bipush C dX12_readsCommand_116 118 tb_118 ?_
            refine ts_callVi C [ts_v 118] (mX12_reads hl) kX12_reads q_2521 (by decide) shX12 rfl rfl rfl (Nat.le_of_ble_eq_true rfl) ⟨Nat.le_of_ble_eq_true rfl, Nat.le_of_ble_eq_true rfl⟩ ⟨Nat.le_of_ble_eq_true rfl, Nat.le_of_ble_eq_true rfl⟩ dX12_readsCommand_118 (fun r15 M14 => ?_)
            refine ts_cm0_eq C rfl 155 dX12_readsCommand_121 rfl ?_ ?_
            · exact ts_sub [] rfl (H155 _)
            · refine ts_aload_n C dX12_readsCommand_124 rfl 0 rfl ?_
              refine ts_bipush C dX12_readsCommand_125 111 tb_111 ?_
              refine ts_callVi C [ts_v 111] (mX12_reads hl) kX12_reads q_2521 (by decide) shX12 rfl rfl rfl (Nat.le_of_ble_eq_true rfl) ⟨Nat.le_of_ble_eq_true rfl, Nat.le_of_ble_eq_true rfl⟩ ⟨Nat.le_of_ble_eq_true rfl, Nat.le_of_ble_eq_true rfl⟩ dX12_readsCommand_127 (fun r17 M16 => ?_)
              refine ts_cm0_eq C rfl 155 dX12_readsCommand_130 rfl ?_ ?_
              · exact ts_sub [] rfl (H155 _)
              · refine ts_aload_n C dX12_readsCommand_133 rfl 0 rfl ?_
                refine ts_bipush C dX12_readsCommand_134 116 tb_116 ?_
                refine ts_callVi C [ts_v 116] (mX12_reads hl) kX12_reads q_2521 (by decide) shX12 rfl rfl rfl (Nat.le_of_ble_eq_true rfl) ⟨Nat.le_of_ble_eq_true rfl, Nat.le_of_ble_eq_true rfl⟩ ⟨Nat.le_of_ble_eq_true rfl, Nat.le_of_ble_eq_true rfl⟩ dX12_readsCommand_136 (fun r19 M18 => ?_)
                refine ts_cm0_eq C rfl 155 dX12_readsCommand_139 rfl ?_ ?_
                · exact ts_sub [] rfl (H155 _)
                · refine ts_aload_n C dX12_readsCommand_142 rfl 0 rfl ?_
                  refine ts_bipush C dX12_readsCommand_143 101 tb_101 ?_
                  refine ts_callVi C [ts_v 101] (mX12_reads hl) kX12_reads q_2521 (by decide) shX12 rfl rfl rfl (Nat.le_of_ble_eq_true rfl) ⟨Nat.le_of_ble_eq_true rfl, Nat.le_of_ble_eq_true rfl⟩ ⟨Nat.le_of_ble_eq_true rfl, Nat.le_of_ble_eq_true rfl⟩ dX12_readsCommand_145 (fun r21 M20 => ?_)
                  refine ts_cm0_eq C rfl 155 dX12_readsCommand_148 rfl ?_ ?_
                  · exact ts_sub [] rfl (H155 _)
                  · refine ts_iconst C dX12_readsCommand_151 1 rfl ?_
                    refine ts_goto C 156 dX12_readsCommand_152 rfl ?_
                    exact ts_sub [] rfl (H156 _ _)
          · refine ts_aload_n C dX12_readsCommand_73 rfl 0 rfl ?_
            refine ts_bipush C dX12_readsCommand_74 108 tb_108 ?_
            refine ts_callVi C [ts_v 108] (mX12_reads hl) kX12_reads q_2521 (by decide) shX12 rfl rfl rfl (Nat.le_of_ble_eq_true rfl) ⟨Nat.le_of_ble_eq_true rfl, Nat.le_of_ble_eq_true rfl⟩ ⟨Nat.le_of_ble_eq_true rfl, Nat.le_of_ble_eq_true rfl⟩ dX12_readsCommand_76 (fun r23 M22 => ?_)
            refine ts_cm0_eq C rfl 113 dX12_readsCommand_79 rfl ?_ ?_
            · exact ts_sub [] rfl (H113 _)
            · refine ts_aload_n C dX12_readsCommand_82 rfl 0 rfl ?_
              refine ts_bipush C dX12_readsCommand_83 111 tb_111 ?_
              refine ts_callVi C [ts_v 111] (mX12_reads hl) kX12_reads q_2521 (by decide) shX12 rfl rfl rfl (Nat.le_of_ble_eq_true rfl) ⟨Nat.le_of_ble_eq_true rfl, Nat.le_of_ble_eq_true rfl⟩ ⟨Nat.le_of_ble_eq_true rfl, Nat.le_of_ble_eq_true rfl⟩ dX12_readsCommand_85 (fun r25 M24 => ?_)
              refine ts_cm0_eq C rfl 113 dX12_readsCommand_88 rfl ?_ ?_
              · exact ts_sub [] rfl (H113 _)
              · refine ts_aload_n C dX12_readsCommand_91 rfl 0 rfl ?_
                refine ts_bipush C dX12_readsCommand_92 115 tb_115 ?_
                refine ts_callVi C [ts_v 115] (mX12_reads hl) kX12_reads q_2521 (by decide) shX12 rfl rfl rfl (Nat.le_of_ble_eq_true rfl) ⟨Nat.le_of_ble_eq_true rfl, Nat.le_of_ble_eq_true rfl⟩ ⟨Nat.le_of_ble_eq_true rfl, Nat.le_of_ble_eq_true rfl⟩ dX12_readsCommand_94 (fun r27 M26 => ?_)
                refine ts_cm0_eq C rfl 113 dX12_readsCommand_97 rfl ?_ ?_
                · exact ts_sub [] rfl (H113 _)
                · refine ts_aload_n C dX12_readsCommand_100 rfl 0 rfl ?_
                  refine ts_bipush C dX12_readsCommand_101 101 tb_101 ?_
                  refine ts_callVi C [ts_v 101] (mX12_reads hl) kX12_reads q_2521 (by decide) shX12 rfl rfl rfl (Nat.le_of_ble_eq_true rfl) ⟨Nat.le_of_ble_eq_true rfl, Nat.le_of_ble_eq_true rfl⟩ ⟨Nat.le_of_ble_eq_true rfl, Nat.le_of_ble_eq_true rfl⟩ dX12_readsCommand_103 (fun r29 M28 => ?_)
                  refine ts_cm0_eq C rfl 113 dX12_readsCommand_106 rfl ?_ ?_
                  · exact ts_sub [] rfl (H113 _)
                  · refine ts_iconst C dX12_readsCommand_109 1 rfl ?_
                    refine ts_goto C 114 dX12_readsCommand_110 rfl ?_
                    exact ts_sub [] rfl (H114 _ _)
        · refine ts_aload_n C dX12_readsCommand_59 rfl 0 rfl ?_
          refine ts_callVi C [] (mX12_readsA hl) kX12_readsA q_2549 (by decide) shX12 rfl rfl rfl (Nat.le_of_ble_eq_true rfl) ⟨Nat.le_of_ble_eq_true rfl, Nat.le_of_ble_eq_true rfl⟩ ⟨Nat.le_of_ble_eq_true rfl, Nat.le_of_ble_eq_true rfl⟩ dX12_readsCommand_60 (fun r31 M30 => ?_)
          exact ts_zreti C (Nat.zero_le _) (Nat.zero_le _) dX12_readsCommand_63
      · refine ts_aload_n C dX12_readsCommand_45 rfl 0 rfl ?_
        refine ts_callVi C [] (mX12_readsM hl) kX12_readsM q_2545 (by decide) shX12 rfl rfl rfl (Nat.le_of_ble_eq_true rfl) ⟨Nat.le_of_ble_eq_true rfl, Nat.le_of_ble_eq_true rfl⟩ ⟨Nat.le_of_ble_eq_true rfl, Nat.le_of_ble_eq_true rfl⟩ dX12_readsCommand_46 (fun r33 M32 => ?_)
        exact ts_zreti C (Nat.zero_le _) (Nat.zero_le _) dX12_readsCommand_49
    · refine ts_aload_n C dX12_readsCommand_31 rfl 0 rfl ?_
      refine ts_callVi C [] (mX12_readsP hl) kX12_readsP q_2541 (by decide) shX12 rfl rfl rfl (Nat.le_of_ble_eq_true rfl) ⟨Nat.le_of_ble_eq_true rfl, Nat.le_of_ble_eq_true rfl⟩ ⟨Nat.le_of_ble_eq_true rfl, Nat.le_of_ble_eq_true rfl⟩ dX12_readsCommand_32 (fun r35 M34 => ?_)
      exact ts_zreti C (Nat.zero_le _) (Nat.zero_le _) dX12_readsCommand_35
  · refine ts_aload_n C dX12_readsCommand_17 rfl 0 rfl ?_
    refine ts_callVi C [] (mX12_readsS hl) kX12_readsS q_2525 (by decide) shX12 rfl rfl rfl (Nat.le_of_ble_eq_true rfl) ⟨Nat.le_of_ble_eq_true rfl, Nat.le_of_ble_eq_true rfl⟩ ⟨Nat.le_of_ble_eq_true rfl, Nat.le_of_ble_eq_true rfl⟩ dX12_readsCommand_18 (fun r37 M36 => ?_)
    exact ts_zreti C (Nat.zero_le _) (Nat.zero_le _) dX12_readsCommand_21
def wX12_readsAll_B46   (Q : Int → ts_M → Prop)  (z0 : Int) (M : ts_M) : Prop :=
  ((ts_w z0 = 0 ∨ ts_w z0 = 1) ∧ Q z0 M)
def wX12_readsAll_L7   (Q : Int → ts_M → Prop) (k7 : Int → ts_M → Prop) (y1 : Int) (M : ts_M) : Prop :=
  ((ts_w y1 = 0 → ((¬ (ts_w (M.1 164 15) = ts_w (M.1 164 14)) → wX12_readsAll_B46 Q 0 M) ∧ (ts_w (M.1 164 15) = ts_w (M.1 164 14) → wX12_readsAll_B46 Q 1 M))) ∧ (¬ (ts_w y1 = 0) → (wX12_readsCommand  (fun r4 M3 => ((¬ (ts_w r4 = 0) → (wX12_reads 59 (fun r6 M5 => (∀ x7 : Int, x7 = r6 → k7 x7 M5)) M3)) ∧ (ts_w r4 = 0 → Q 0 M3))) M)))
def wX12_readsAll (Q : Int → ts_M → Prop) (M : ts_M) : Prop :=
  (∀ M1, M1 = ts_si M 164 15 0 → (∀ x2 : Int, x2 = 1 → ∃ n, ts_lp1 (wX12_readsAll_L7 Q) n x2 M1))
set_option maxRecDepth 100000 in
set_option maxHeartbeats 4000000 in
theorem mX12_readsAll {l : Launch} {g : ts_W} (hl : l.stackTraces = false) {Q : Int → ts_M → Prop} {M : ts_M} : wX12_readsAll Q M → ts_Con l g yX12_readsAll cX12_readsAll 2 (some .boolean) 6 0 0 [.ref (ts_ad g 164)] M (ts_Ri Q) := by
  intro h0
  refine ts_Con.of hl (by decide) (Nat.le_of_ble_eq_true rfl) ?_
  intro p e s m args below meth c C
  have H46 : ∀ (z0 : Int) (M : ts_M), wX12_readsAll_B46   Q z0 M → ts_V p l e (ts_rm 6 0 0) s m args below meth c g 2 0 0 (MQ below (ts_Q g (ts_Ri Q)) args s 0 0 (ts_A g)) 46 [] [ts_v z0] M := by
    intro  z0 M
    unfold wX12_readsAll_B46
    exact ts_zreti C (Nat.zero_le _) (Nat.zero_le _) dX12_readsAll_46
  have H7 : ∀ (n : Nat) (y1 : Int) (M : ts_M), ts_lp1 (wX12_readsAll_L7   Q) n y1 M → ts_V p l e (ts_rm 6 0 0) s m args below meth c g 2 0 0 (MQ below (ts_Q g (ts_Ri Q)) args s 0 0 (ts_A g)) 7 [(0, .ref (ts_ad g 164)), (1, ts_v y1)] [] M := by
    refine ts_lpr1 (V := fun (y1 : Int) (M : ts_M) => ts_V p l e (ts_rm 6 0 0) s m args below meth c g 2 0 0 (MQ below (ts_Q g (ts_Ri Q)) args s 0 0 (ts_A g)) 7 [(0, .ref (ts_ad g 164)), (1, ts_v y1)] [] M) ?_
    intro k7 hk7 y1 M
    unfold wX12_readsAll_L7
    refine ts_iload_n C dX12_readsAll_7 rfl 1 rfl ?_
    refine ts_cm0_eq C rfl 30 dX12_readsAll_8 rfl ?_ ?_
    · refine ts_aload_n C dX12_readsAll_30 rfl 0 rfl ?_
      refine tgX12_15 C q_1973 dX12_readsAll_31 ?_
      refine ts_aload_n C dX12_readsAll_34 rfl 0 rfl ?_
      refine tgX12_14 C q_1972 dX12_readsAll_35 ?_
      refine ts_cmp_ne C rfl rfl 45 dX12_readsAll_38 rfl ?_ ?_
      · refine ts_iconst C dX12_readsAll_45 0 rfl ?_
        exact ts_sub [] rfl (H46 _ _)
      · refine ts_iconst C dX12_readsAll_41 1 rfl ?_
        refine ts_goto C 46 dX12_readsAll_42 rfl ?_
        exact ts_sub [] rfl (H46 _ _)
    · refine ts_aload_n C dX12_readsAll_11 rfl 0 rfl ?_
      refine ts_callVi C [] (mX12_readsCommand hl) kX12_readsCommand q_2513 (by decide) shX12 rfl rfl rfl (Nat.le_of_ble_eq_true rfl) ⟨Nat.le_of_ble_eq_true rfl, Nat.le_of_ble_eq_true rfl⟩ ⟨Nat.le_of_ble_eq_true rfl, Nat.le_of_ble_eq_true rfl⟩ dX12_readsAll_12 (fun r4 M3 => ?_)
      refine ts_cm0_ne C rfl 20 dX12_readsAll_15 rfl ?_ ?_
      · refine ts_aload_n C dX12_readsAll_20 rfl 0 rfl ?_
        refine ts_bipush C dX12_readsAll_21 59 tb_59 ?_
        refine ts_callVi C [ts_v 59] (mX12_reads hl) kX12_reads q_2521 (by decide) shX12 rfl rfl rfl (Nat.le_of_ble_eq_true rfl) ⟨Nat.le_of_ble_eq_true rfl, Nat.le_of_ble_eq_true rfl⟩ ⟨Nat.le_of_ble_eq_true rfl, Nat.le_of_ble_eq_true rfl⟩ dX12_readsAll_23 (fun r6 M5 => ?_)
        refine ts_istore_n C dX12_readsAll_26 rfl (by decide) (lv' := fun x7 => [(1, ts_v x7), (0, .ref (ts_ad g 164))]) (fun _ => rfl) (fun x7 => ?_)
        refine ts_goto C 7 dX12_readsAll_27 rfl ?_
        exact ts_sub [1, 0] rfl (hk7 _ _)
      · refine ts_iconst C dX12_readsAll_18 0 rfl ?_
        exact ts_zretci C (by decide) (Nat.zero_le _) (Nat.zero_le _) dX12_readsAll_19
  revert h0
  unfold wX12_readsAll
  have hl0 : lv_args 0 [.ref (ts_ad g 164)] = [(0, .ref (ts_ad g 164))] := rfl
  rw [hl0]
  refine ts_aload_n C dX12_readsAll_0 rfl 0 rfl ?_
  refine ts_iconst C dX12_readsAll_1 0 rfl ?_
  refine tpX12_15 C q_1973 dX12_readsAll_2 (fun M1 => ?_)
  refine ts_iconst C dX12_readsAll_5 1 rfl ?_
  refine ts_istore_n C dX12_readsAll_6 rfl (by decide) (lv' := fun x2 => [(1, ts_v x2), (0, .ref (ts_ad g 164))]) (fun _ => rfl) (fun x2 => ?_)
  rintro ⟨n, hn⟩
  exact ts_sub [1, 0] rfl (H7 n _ _) hn
def wX12_notMade_B13   (Q : Int → ts_M → Prop)  (z0 : Int) (M : ts_M) : Prop :=
  Q z0 M
def wX12_notMade (p1 : Int) (Q : Int → ts_M → Prop) (M : ts_M) : Prop :=
  (wX12_canMake p1 (fun r2 M1 => ((ts_w r2 = 0 → wX12_notMade_B13 Q 1 M1) ∧ (¬ (ts_w r2 = 0) → wX12_notMade_B13 Q 0 M1))) M)
set_option maxRecDepth 100000 in
set_option maxHeartbeats 4000000 in
theorem mX12_notMade {l : Launch} {g : ts_W} (hl : l.stackTraces = false) {p1 : Int} {Q : Int → ts_M → Prop} {M : ts_M} : wX12_notMade p1 Q M → ts_Con l g yX12_notMade cX12_notMade 2 (some .int) 2 0 0 [.ref (ts_ad g 164), ts_v p1] M (ts_Ri Q) := by
  intro h0
  refine ts_Con.of hl (by decide) (Nat.le_of_ble_eq_true rfl) ?_
  intro p e s m args below meth c C
  have H13 : ∀ (z0 : Int) (M : ts_M), wX12_notMade_B13   Q z0 M → ts_V p l e (ts_rm 2 0 0) s m args below meth c g 2 0 0 (MQ below (ts_Q g (ts_Ri Q)) args s 0 0 (ts_A g)) 13 [] [ts_v z0] M := by
    intro  z0 M
    unfold wX12_notMade_B13
    exact ts_ireti C (Nat.zero_le _) (Nat.zero_le _) dX12_notMade_13
  revert h0
  unfold wX12_notMade
  have hl0 : lv_args 0 [.ref (ts_ad g 164), ts_v p1] = [(0, .ref (ts_ad g 164)), (1, ts_v p1)] := rfl
  rw [hl0]
  refine ts_aload_n C dX12_notMade_0 rfl 0 rfl ?_
  refine ts_iload_n C dX12_notMade_1 rfl 1 rfl ?_
  refine ts_callVi C [ts_v p1] (mX12_canMake hl) kX12_canMake q_2093 (by decide) shX12 rfl rfl rfl (Nat.le_of_ble_eq_true rfl) ⟨Nat.le_of_ble_eq_true rfl, Nat.le_of_ble_eq_true rfl⟩ ⟨Nat.le_of_ble_eq_true rfl, Nat.le_of_ble_eq_true rfl⟩ dX12_notMade_2 (fun r2 M1 => ?_)
  refine ts_cm0_eq C rfl 12 dX12_notMade_5 rfl ?_ ?_
  · refine ts_iconst C dX12_notMade_12 1 rfl ?_
    exact ts_sub [] rfl (H13 _ _)
  · refine ts_iconst C dX12_notMade_8 0 rfl ?_
    refine ts_goto C 13 dX12_notMade_9 rfl ?_
    exact ts_sub [] rfl (H13 _ _)
def wX12_notNow (Q : Int → ts_M → Prop) (M : ts_M) : Prop :=
  (∀ x1 : Int, x1 = M.1 174 0 → (∀ x2 : Int, x2 = M.1 174 1 → ((ts_w (M.1 164 19) = 97 → (wX12_notAmend x1 (fun r4 M3 => Q r4 M3) M)) ∧ (¬ (ts_w (M.1 164 19) = 97) → ((ts_w (M.1 164 19) = 98 → (wX12_notVote  (fun r6 M5 => Q r6 M5) M)) ∧ (¬ (ts_w (M.1 164 19) = 98) → ((ts_w (M.1 164 19) = 99 → (wX12_notMade 3 (fun r8 M7 => Q r8 M7) M)) ∧ (¬ (ts_w (M.1 164 19) = 99) → ((ts_w (M.1 164 19) = 100 → (wX12_notMop x1 x2 (fun r10 M9 => Q r10 M9) M)) ∧ (¬ (ts_w (M.1 164 19) = 100) → ((ts_w (M.1 164 19) = 101 → (wX12_notVote  (fun r12 M11 => Q r12 M11) M)) ∧ (¬ (ts_w (M.1 164 19) = 101) → ((ts_w (M.1 164 19) = 102 → (wX12_notVote  (fun r14 M13 => Q r14 M13) M)) ∧ (¬ (ts_w (M.1 164 19) = 102) → ((ts_w (M.1 164 19) = 103 → (wX12_notVote  (fun r16 M15 => Q r16 M15) M)) ∧ (¬ (ts_w (M.1 164 19) = 103) → ((ts_w (M.1 164 19) = 104 → (wX12_notVote  (fun r18 M17 => Q r18 M17) M)) ∧ (¬ (ts_w (M.1 164 19) = 104) → ((ts_w (M.1 164 19) = 105 → (wX12_notSpill x1 x2 (M.1 174 2) (fun r20 M19 => Q r20 M19) M)) ∧ (¬ (ts_w (M.1 164 19) = 105) → ((ts_w (M.1 164 19) = 106 → (wX12_notMade 4 (fun r22 M21 => Q r22 M21) M)) ∧ (¬ (ts_w (M.1 164 19) = 106) → ((ts_w (M.1 164 19) = 107 → (wX12_notSpeak x1 (fun r24 M23 => Q r24 M23) M)) ∧ (¬ (ts_w (M.1 164 19) = 107) → ((ts_w (M.1 164 19) = 108 → (wX12_notVote  (fun r26 M25 => Q r26 M25) M)) ∧ (¬ (ts_w (M.1 164 19) = 108) → ((ts_w (M.1 164 19) = 109 → (wX12_notMain x1 (fun r28 M27 => Q r28 M27) M)) ∧ (¬ (ts_w (M.1 164 19) = 109) → ((ts_w (M.1 164 19) = 110 → (wX12_notVote  (fun r30 M29 => Q r30 M29) M)) ∧ (¬ (ts_w (M.1 164 19) = 110) → ((ts_w (M.1 164 19) = 111 → (wX12_notVote  (fun r32 M31 => Q r32 M31) M)) ∧ (¬ (ts_w (M.1 164 19) = 111) → ((ts_w (M.1 164 19) = 112 → (wX12_notPropose x1 (fun r34 M33 => Q r34 M33) M)) ∧ (¬ (ts_w (M.1 164 19) = 112) → ((ts_w (M.1 164 19) = 113 → (wX12_notMade 2 (fun r36 M35 => Q r36 M35) M)) ∧ (¬ (ts_w (M.1 164 19) = 113) → ((ts_w (M.1 164 19) = 114 → (wX12_notVote  (fun r38 M37 => Q r38 M37) M)) ∧ (¬ (ts_w (M.1 164 19) = 114) → ((ts_w (M.1 164 19) = 115 → (wX12_notSpoon x1 x2 (fun r40 M39 => Q r40 M39) M)) ∧ (¬ (ts_w (M.1 164 19) = 115) → ((ts_w (M.1 164 19) = 116 → (wX12_notVote  (fun r42 M41 => Q r42 M41) M)) ∧ (¬ (ts_w (M.1 164 19) = 116) → ((ts_w (M.1 164 19) = 117 → (wX12_notSugar x1 x2 (fun r44 M43 => Q r44 M43) M)) ∧ (¬ (ts_w (M.1 164 19) = 117) → (wX12_notVote  (fun r46 M45 => Q r46 M45) M)))))))))))))))))))))))))))))))))))))))))))))
set_option maxRecDepth 100000 in
set_option maxHeartbeats 4000000 in
theorem mX12_notNow {l : Launch} {g : ts_W} (hl : l.stackTraces = false) {Q : Int → ts_M → Prop} {M : ts_M} : wX12_notNow Q M → ts_Con l g yX12_notNow cX12_notNow 3 (some .int) 3 0 0 [.ref (ts_ad g 164)] M (ts_Ri Q) := by
  intro h0
  refine ts_Con.of hl (by decide) (Nat.le_of_ble_eq_true rfl) ?_
  intro p e s m args below meth c C
  revert h0
  unfold wX12_notNow
  have hl0 : lv_args 0 [.ref (ts_ad g 164)] = [(0, .ref (ts_ad g 164))] := rfl
  rw [hl0]
  refine ts_aload_n C dX12_notNow_0 rfl 0 rfl ?_
  refine tgX12_18 C q_1976 dX12_notNow_1 ?_
  refine ts_iconst C dX12_notNow_4 0 rfl ?_
  refine ts_ialdc C (by decide) shG174 tw_0 (by decide) dX12_notNow_5 ?_
  refine ts_istore_n C dX12_notNow_6 rfl (by decide) (lv' := fun x1 => [(1, ts_v x1), (0, .ref (ts_ad g 164))]) (fun _ => rfl) (fun x1 => ?_)
  refine ts_aload_n C dX12_notNow_7 rfl 1 rfl ?_
  refine tgX12_18 C q_1976 dX12_notNow_8 ?_
  refine ts_iconst C dX12_notNow_11 1 rfl ?_
  refine ts_ialdc C (by decide) shG174 tw_1 (by decide) dX12_notNow_12 ?_
  refine ts_istore_n C dX12_notNow_13 rfl (by decide) (lv' := fun x2 => [(2, ts_v x2), (1, ts_v x1), (0, .ref (ts_ad g 164))]) (fun _ => rfl) (fun x2 => ?_)
  refine ts_aload_n C dX12_notNow_14 rfl 2 rfl ?_
  refine tgX12_19 C q_1977 dX12_notNow_15 ?_
  refine ts_case rfl 97 (fun e0 => ?_) (fun e0 => ?_)
  · refine ts_tabIn C 97 e0 173 dX12_notNow_18 (by decide) (by decide) rfl rfl ?_
    refine ts_aload_n C dX12_notNow_173 rfl 2 rfl ?_
    refine ts_iload_n C dX12_notNow_174 rfl 1 rfl ?_
    refine ts_callVi C [ts_v x1] (mX12_notAmend hl) kX12_notAmend q_2113 (by decide) shX12 rfl rfl rfl (Nat.le_of_ble_eq_true rfl) ⟨Nat.le_of_ble_eq_true rfl, Nat.le_of_ble_eq_true rfl⟩ ⟨Nat.le_of_ble_eq_true rfl, Nat.le_of_ble_eq_true rfl⟩ dX12_notNow_175 (fun r4 M3 => ?_)
    exact ts_ireti C (Nat.zero_le _) (Nat.zero_le _) dX12_notNow_178
  · refine ts_case rfl 98 (fun e1 => ?_) (fun e1 => ?_)
    · refine ts_tabIn C 98 e1 191 dX12_notNow_18 (by decide) (by decide) rfl rfl ?_
      refine ts_aload_n C dX12_notNow_191 rfl 2 rfl ?_
      refine ts_callVi C [] (mX12_notVote hl) kX12_notVote q_2161 (by decide) shX12 rfl rfl rfl (Nat.le_of_ble_eq_true rfl) ⟨Nat.le_of_ble_eq_true rfl, Nat.le_of_ble_eq_true rfl⟩ ⟨Nat.le_of_ble_eq_true rfl, Nat.le_of_ble_eq_true rfl⟩ dX12_notNow_192 (fun r6 M5 => ?_)
      exact ts_ireti C (Nat.zero_le _) (Nat.zero_le _) dX12_notNow_195
    · refine ts_case rfl 99 (fun e2 => ?_) (fun e2 => ?_)
      · refine ts_tabIn C 99 e2 185 dX12_notNow_18 (by decide) (by decide) rfl rfl ?_
        refine ts_aload_n C dX12_notNow_185 rfl 2 rfl ?_
        refine ts_iconst C dX12_notNow_186 3 rfl ?_
        refine ts_callVi C [ts_v 3] (mX12_notMade hl) kX12_notMade q_2561 (by decide) shX12 rfl rfl rfl (Nat.le_of_ble_eq_true rfl) ⟨Nat.le_of_ble_eq_true rfl, Nat.le_of_ble_eq_true rfl⟩ ⟨Nat.le_of_ble_eq_true rfl, Nat.le_of_ble_eq_true rfl⟩ dX12_notNow_187 (fun r8 M7 => ?_)
        exact ts_ireti C (Nat.zero_le _) (Nat.zero_le _) dX12_notNow_190
      · refine ts_case rfl 100 (fun e3 => ?_) (fun e3 => ?_)
        · refine ts_tabIn C 100 e3 166 dX12_notNow_18 (by decide) (by decide) rfl rfl ?_
          refine ts_aload_n C dX12_notNow_166 rfl 2 rfl ?_
          refine ts_iload_n C dX12_notNow_167 rfl 1 rfl ?_
          refine ts_iload_n C dX12_notNow_168 rfl 0 rfl ?_
          refine ts_callVi C [ts_v x1, ts_v x2] (mX12_notMop hl) kX12_notMop q_2266 (by decide) shX12 rfl rfl rfl (Nat.le_of_ble_eq_true rfl) ⟨Nat.le_of_ble_eq_true rfl, Nat.le_of_ble_eq_true rfl⟩ ⟨Nat.le_of_ble_eq_true rfl, Nat.le_of_ble_eq_true rfl⟩ dX12_notNow_169 (fun r10 M9 => ?_)
          exact ts_ireti C (Nat.zero_le _) (Nat.zero_le _) dX12_notNow_172
        · refine ts_case rfl 101 (fun e4 => ?_) (fun e4 => ?_)
          · refine ts_tabIn C 101 e4 191 dX12_notNow_18 (by decide) (by decide) rfl rfl ?_
            refine ts_aload_n C dX12_notNow_191 rfl 2 rfl ?_
            refine ts_callVi C [] (mX12_notVote hl) kX12_notVote q_2161 (by decide) shX12 rfl rfl rfl (Nat.le_of_ble_eq_true rfl) ⟨Nat.le_of_ble_eq_true rfl, Nat.le_of_ble_eq_true rfl⟩ ⟨Nat.le_of_ble_eq_true rfl, Nat.le_of_ble_eq_true rfl⟩ dX12_notNow_192 (fun r12 M11 => ?_)
            exact ts_ireti C (Nat.zero_le _) (Nat.zero_le _) dX12_notNow_195
          · refine ts_case rfl 102 (fun e5 => ?_) (fun e5 => ?_)
            · refine ts_tabIn C 102 e5 191 dX12_notNow_18 (by decide) (by decide) rfl rfl ?_
              refine ts_aload_n C dX12_notNow_191 rfl 2 rfl ?_
              refine ts_callVi C [] (mX12_notVote hl) kX12_notVote q_2161 (by decide) shX12 rfl rfl rfl (Nat.le_of_ble_eq_true rfl) ⟨Nat.le_of_ble_eq_true rfl, Nat.le_of_ble_eq_true rfl⟩ ⟨Nat.le_of_ble_eq_true rfl, Nat.le_of_ble_eq_true rfl⟩ dX12_notNow_192 (fun r14 M13 => ?_)
              exact ts_ireti C (Nat.zero_le _) (Nat.zero_le _) dX12_notNow_195
            · refine ts_case rfl 103 (fun e6 => ?_) (fun e6 => ?_)
              · refine ts_tabIn C 103 e6 191 dX12_notNow_18 (by decide) (by decide) rfl rfl ?_
                refine ts_aload_n C dX12_notNow_191 rfl 2 rfl ?_
                refine ts_callVi C [] (mX12_notVote hl) kX12_notVote q_2161 (by decide) shX12 rfl rfl rfl (Nat.le_of_ble_eq_true rfl) ⟨Nat.le_of_ble_eq_true rfl, Nat.le_of_ble_eq_true rfl⟩ ⟨Nat.le_of_ble_eq_true rfl, Nat.le_of_ble_eq_true rfl⟩ dX12_notNow_192 (fun r16 M15 => ?_)
                exact ts_ireti C (Nat.zero_le _) (Nat.zero_le _) dX12_notNow_195
              · refine ts_case rfl 104 (fun e7 => ?_) (fun e7 => ?_)
                · refine ts_tabIn C 104 e7 191 dX12_notNow_18 (by decide) (by decide) rfl rfl ?_
                  refine ts_aload_n C dX12_notNow_191 rfl 2 rfl ?_
                  refine ts_callVi C [] (mX12_notVote hl) kX12_notVote q_2161 (by decide) shX12 rfl rfl rfl (Nat.le_of_ble_eq_true rfl) ⟨Nat.le_of_ble_eq_true rfl, Nat.le_of_ble_eq_true rfl⟩ ⟨Nat.le_of_ble_eq_true rfl, Nat.le_of_ble_eq_true rfl⟩ dX12_notNow_192 (fun r18 M17 => ?_)
                  exact ts_ireti C (Nat.zero_le _) (Nat.zero_le _) dX12_notNow_195
                · refine ts_case rfl 105 (fun e8 => ?_) (fun e8 => ?_)
                  · refine ts_tabIn C 105 e8 129 dX12_notNow_18 (by decide) (by decide) rfl rfl ?_
                    refine ts_iload_n C dX12_notNow_129 rfl 1 rfl ?_
                    refine ts_iload_n C dX12_notNow_130 rfl 0 rfl ?_
                    refine ts_aload_n C dX12_notNow_131 rfl 2 rfl ?_
                    refine tgX12_18 C q_1976 dX12_notNow_132 ?_
                    refine ts_iconst C dX12_notNow_135 2 rfl ?_
                    refine ts_ialdc C (by decide) shG174 tw_2 (by decide) dX12_notNow_136 ?_
                    refine ts_callSi C [ts_v x1, ts_v x2, ts_v (M.1 174 2)] (mX12_notSpill hl) kX12_notSpill q_2232 rfl rfl (Nat.le_of_ble_eq_true rfl) ⟨Nat.le_of_ble_eq_true rfl, Nat.le_of_ble_eq_true rfl⟩ ⟨Nat.le_of_ble_eq_true rfl, Nat.le_of_ble_eq_true rfl⟩ dX12_notNow_137 (fun r20 M19 => ?_)
                    exact ts_ireti C (Nat.zero_le _) (Nat.zero_le _) dX12_notNow_140
                  · refine ts_case rfl 106 (fun e9 => ?_) (fun e9 => ?_)
                    · refine ts_tabIn C 106 e9 179 dX12_notNow_18 (by decide) (by decide) rfl rfl ?_
                      refine ts_aload_n C dX12_notNow_179 rfl 2 rfl ?_
                      refine ts_iconst C dX12_notNow_180 4 rfl ?_
                      refine ts_callVi C [ts_v 4] (mX12_notMade hl) kX12_notMade q_2561 (by decide) shX12 rfl rfl rfl (Nat.le_of_ble_eq_true rfl) ⟨Nat.le_of_ble_eq_true rfl, Nat.le_of_ble_eq_true rfl⟩ ⟨Nat.le_of_ble_eq_true rfl, Nat.le_of_ble_eq_true rfl⟩ dX12_notNow_181 (fun r22 M21 => ?_)
                      exact ts_ireti C (Nat.zero_le _) (Nat.zero_le _) dX12_notNow_184
                    · refine ts_case rfl 107 (fun e10 => ?_) (fun e10 => ?_)
                      · refine ts_tabIn C 107 e10 123 dX12_notNow_18 (by decide) (by decide) rfl rfl ?_
                        refine ts_aload_n C dX12_notNow_123 rfl 2 rfl ?_
                        refine ts_iload_n C dX12_notNow_124 rfl 1 rfl ?_
                        refine ts_callVi C [ts_v x1] (mX12_notSpeak hl) kX12_notSpeak q_2141 (by decide) shX12 rfl rfl rfl (Nat.le_of_ble_eq_true rfl) ⟨Nat.le_of_ble_eq_true rfl, Nat.le_of_ble_eq_true rfl⟩ ⟨Nat.le_of_ble_eq_true rfl, Nat.le_of_ble_eq_true rfl⟩ dX12_notNow_125 (fun r24 M23 => ?_)
                        exact ts_ireti C (Nat.zero_le _) (Nat.zero_le _) dX12_notNow_128
                      · refine ts_case rfl 108 (fun e11 => ?_) (fun e11 => ?_)
                        · refine ts_tabIn C 108 e11 191 dX12_notNow_18 (by decide) (by decide) rfl rfl ?_
                          refine ts_aload_n C dX12_notNow_191 rfl 2 rfl ?_
                          refine ts_callVi C [] (mX12_notVote hl) kX12_notVote q_2161 (by decide) shX12 rfl rfl rfl (Nat.le_of_ble_eq_true rfl) ⟨Nat.le_of_ble_eq_true rfl, Nat.le_of_ble_eq_true rfl⟩ ⟨Nat.le_of_ble_eq_true rfl, Nat.le_of_ble_eq_true rfl⟩ dX12_notNow_192 (fun r26 M25 => ?_)
                          exact ts_ireti C (Nat.zero_le _) (Nat.zero_le _) dX12_notNow_195
                        · refine ts_case rfl 109 (fun e12 => ?_) (fun e12 => ?_)
                          · refine ts_tabIn C 109 e12 160 dX12_notNow_18 (by decide) (by decide) rfl rfl ?_
                            refine ts_aload_n C dX12_notNow_160 rfl 2 rfl ?_
                            refine ts_iload_n C dX12_notNow_161 rfl 1 rfl ?_
                            refine ts_callVi C [ts_v x1] (mX12_notMain hl) kX12_notMain q_2081 (by decide) shX12 rfl rfl rfl (Nat.le_of_ble_eq_true rfl) ⟨Nat.le_of_ble_eq_true rfl, Nat.le_of_ble_eq_true rfl⟩ ⟨Nat.le_of_ble_eq_true rfl, Nat.le_of_ble_eq_true rfl⟩ dX12_notNow_162 (fun r28 M27 => ?_)
                            exact ts_ireti C (Nat.zero_le _) (Nat.zero_le _) dX12_notNow_165
                          · refine ts_case rfl 110 (fun e13 => ?_) (fun e13 => ?_)
                            · refine ts_tabIn C 110 e13 191 dX12_notNow_18 (by decide) (by decide) rfl rfl ?_
                              refine ts_aload_n C dX12_notNow_191 rfl 2 rfl ?_
                              refine ts_callVi C [] (mX12_notVote hl) kX12_notVote q_2161 (by decide) shX12 rfl rfl rfl (Nat.le_of_ble_eq_true rfl) ⟨Nat.le_of_ble_eq_true rfl, Nat.le_of_ble_eq_true rfl⟩ ⟨Nat.le_of_ble_eq_true rfl, Nat.le_of_ble_eq_true rfl⟩ dX12_notNow_192 (fun r30 M29 => ?_)
                              exact ts_ireti C (Nat.zero_le _) (Nat.zero_le _) dX12_notNow_195
                            · refine ts_case rfl 111 (fun e14 => ?_) (fun e14 => ?_)
                              · refine ts_tabIn C 111 e14 191 dX12_notNow_18 (by decide) (by decide) rfl rfl ?_
                                refine ts_aload_n C dX12_notNow_191 rfl 2 rfl ?_
                                refine ts_callVi C [] (mX12_notVote hl) kX12_notVote q_2161 (by decide) shX12 rfl rfl rfl (Nat.le_of_ble_eq_true rfl) ⟨Nat.le_of_ble_eq_true rfl, Nat.le_of_ble_eq_true rfl⟩ ⟨Nat.le_of_ble_eq_true rfl, Nat.le_of_ble_eq_true rfl⟩ dX12_notNow_192 (fun r32 M31 => ?_)
                                exact ts_ireti C (Nat.zero_le _) (Nat.zero_le _) dX12_notNow_195
                              · refine ts_case rfl 112 (fun e15 => ?_) (fun e15 => ?_)
                                · refine ts_tabIn C 112 e15 148 dX12_notNow_18 (by decide) (by decide) rfl rfl ?_
                                  refine ts_aload_n C dX12_notNow_148 rfl 2 rfl ?_
                                  refine ts_iload_n C dX12_notNow_149 rfl 1 rfl ?_
                                  refine ts_callVi C [ts_v x1] (mX12_notPropose hl) kX12_notPropose q_2065 (by decide) shX12 rfl rfl rfl (Nat.le_of_ble_eq_true rfl) ⟨Nat.le_of_ble_eq_true rfl, Nat.le_of_ble_eq_true rfl⟩ ⟨Nat.le_of_ble_eq_true rfl, Nat.le_of_ble_eq_true rfl⟩ dX12_notNow_150 (fun r34 M33 => ?_)
                                  exact ts_ireti C (Nat.zero_le _) (Nat.zero_le _) dX12_notNow_153
                                · refine ts_case rfl 113 (fun e16 => ?_) (fun e16 => ?_)
                                  · refine ts_tabIn C 113 e16 154 dX12_notNow_18 (by decide) (by decide) rfl rfl ?_
                                    refine ts_aload_n C dX12_notNow_154 rfl 2 rfl ?_
                                    refine ts_iconst C dX12_notNow_155 2 rfl ?_
                                    refine ts_callVi C [ts_v 2] (mX12_notMade hl) kX12_notMade q_2561 (by decide) shX12 rfl rfl rfl (Nat.le_of_ble_eq_true rfl) ⟨Nat.le_of_ble_eq_true rfl, Nat.le_of_ble_eq_true rfl⟩ ⟨Nat.le_of_ble_eq_true rfl, Nat.le_of_ble_eq_true rfl⟩ dX12_notNow_156 (fun r36 M35 => ?_)
                                    exact ts_ireti C (Nat.zero_le _) (Nat.zero_le _) dX12_notNow_159
                                  · refine ts_case rfl 114 (fun e17 => ?_) (fun e17 => ?_)
                                    · refine ts_tabIn C 114 e17 191 dX12_notNow_18 (by decide) (by decide) rfl rfl ?_
                                      refine ts_aload_n C dX12_notNow_191 rfl 2 rfl ?_
                                      refine ts_callVi C [] (mX12_notVote hl) kX12_notVote q_2161 (by decide) shX12 rfl rfl rfl (Nat.le_of_ble_eq_true rfl) ⟨Nat.le_of_ble_eq_true rfl, Nat.le_of_ble_eq_true rfl⟩ ⟨Nat.le_of_ble_eq_true rfl, Nat.le_of_ble_eq_true rfl⟩ dX12_notNow_192 (fun r38 M37 => ?_)
                                      exact ts_ireti C (Nat.zero_le _) (Nat.zero_le _) dX12_notNow_195
                                    · refine ts_case rfl 115 (fun e18 => ?_) (fun e18 => ?_)
                                      · refine ts_tabIn C 115 e18 116 dX12_notNow_18 (by decide) (by decide) rfl rfl ?_
                                        refine ts_aload_n C dX12_notNow_116 rfl 2 rfl ?_
                                        refine ts_iload_n C dX12_notNow_117 rfl 1 rfl ?_
                                        refine ts_iload_n C dX12_notNow_118 rfl 0 rfl ?_
                                        refine ts_callVi C [ts_v x1, ts_v x2] (mX12_notSpoon hl) kX12_notSpoon q_2030 (by decide) shX12 rfl rfl rfl (Nat.le_of_ble_eq_true rfl) ⟨Nat.le_of_ble_eq_true rfl, Nat.le_of_ble_eq_true rfl⟩ ⟨Nat.le_of_ble_eq_true rfl, Nat.le_of_ble_eq_true rfl⟩ dX12_notNow_119 (fun r40 M39 => ?_)
                                        exact ts_ireti C (Nat.zero_le _) (Nat.zero_le _) dX12_notNow_122
                                      · refine ts_case rfl 116 (fun e19 => ?_) (fun e19 => ?_)
                                        · refine ts_tabIn C 116 e19 191 dX12_notNow_18 (by decide) (by decide) rfl rfl ?_
                                          refine ts_aload_n C dX12_notNow_191 rfl 2 rfl ?_
                                          refine ts_callVi C [] (mX12_notVote hl) kX12_notVote q_2161 (by decide) shX12 rfl rfl rfl (Nat.le_of_ble_eq_true rfl) ⟨Nat.le_of_ble_eq_true rfl, Nat.le_of_ble_eq_true rfl⟩ ⟨Nat.le_of_ble_eq_true rfl, Nat.le_of_ble_eq_true rfl⟩ dX12_notNow_192 (fun r42 M41 => ?_)
                                          exact ts_ireti C (Nat.zero_le _) (Nat.zero_le _) dX12_notNow_195
                                        · refine ts_case rfl 117 (fun e20 => ?_) (fun e20 => ?_)
                                          · refine ts_tabIn C 117 e20 141 dX12_notNow_18 (by decide) (by decide) rfl rfl ?_
                                            refine ts_aload_n C dX12_notNow_141 rfl 2 rfl ?_
                                            refine ts_iload_n C dX12_notNow_142 rfl 1 rfl ?_
                                            refine ts_iload_n C dX12_notNow_143 rfl 0 rfl ?_
                                            refine ts_callVi C [ts_v x1, ts_v x2] (mX12_notSugar hl) kX12_notSugar q_2278 (by decide) shX12 rfl rfl rfl (Nat.le_of_ble_eq_true rfl) ⟨Nat.le_of_ble_eq_true rfl, Nat.le_of_ble_eq_true rfl⟩ ⟨Nat.le_of_ble_eq_true rfl, Nat.le_of_ble_eq_true rfl⟩ dX12_notNow_144 (fun r44 M43 => ?_)
                                            exact ts_ireti C (Nat.zero_le _) (Nat.zero_le _) dX12_notNow_147
                                          · refine ts_tabOut C 191 dX12_notNow_18 (by omega) rfl ?_
                                            refine ts_aload_n C dX12_notNow_191 rfl 2 rfl ?_
                                            refine ts_callVi C [] (mX12_notVote hl) kX12_notVote q_2161 (by decide) shX12 rfl rfl rfl (Nat.le_of_ble_eq_true rfl) ⟨Nat.le_of_ble_eq_true rfl, Nat.le_of_ble_eq_true rfl⟩ ⟨Nat.le_of_ble_eq_true rfl, Nat.le_of_ble_eq_true rfl⟩ dX12_notNow_192 (fun r46 M45 => ?_)
                                            exact ts_ireti C (Nat.zero_le _) (Nat.zero_le _) dX12_notNow_195
def wX12_errorPosition_B24   (Q : Int → ts_M → Prop)  (z0 : Int) (M : ts_M) : Prop :=
  Q z0 M
def wX12_errorPosition (Q : Int → ts_M → Prop) (M : ts_M) : Prop :=
  (∀ M1, M1 = ts_si M 164 0 0 → ((0 ≤ ts_w (M1.1 164 16) → wX12_errorPosition_B24 Q (M1.1 164 16) M1) ∧ (¬ (0 ≤ ts_w (M1.1 164 16)) → (wX12_fails 1 (fun r3 M2 => wX12_errorPosition_B24 Q r3 M2) M1))))
set_option maxRecDepth 100000 in
set_option maxHeartbeats 4000000 in
theorem mX12_errorPosition {l : Launch} {g : ts_W} (hl : l.stackTraces = false) {Q : Int → ts_M → Prop} {M : ts_M} : wX12_errorPosition Q M → ts_Con l g yX12_errorPosition cX12_errorPosition 1 (some .int) 1 0 0 [.ref (ts_ad g 164)] M (ts_Ri Q) := by
  intro h0
  refine ts_Con.of hl (by decide) (Nat.le_of_ble_eq_true rfl) ?_
  intro p e s m args below meth c C
  have H24 : ∀ (z0 : Int) (M : ts_M), wX12_errorPosition_B24   Q z0 M → ts_V p l e (ts_rm 1 0 0) s m args below meth c g 1 0 0 (MQ below (ts_Q g (ts_Ri Q)) args s 0 0 (ts_A g)) 24 [] [ts_v z0] M := by
    intro  z0 M
    unfold wX12_errorPosition_B24
    exact ts_ireti C (Nat.zero_le _) (Nat.zero_le _) dX12_errorPosition_24
  revert h0
  unfold wX12_errorPosition
  have hl0 : lv_args 0 [.ref (ts_ad g 164)] = [(0, .ref (ts_ad g 164))] := rfl
  rw [hl0]
  refine ts_aload_n C dX12_errorPosition_0 rfl 0 rfl ?_
  refine ts_iconst C dX12_errorPosition_1 0 rfl ?_
  refine tpX12_0 C q_1958 dX12_errorPosition_2 (fun M1 => ?_)
  refine ts_aload_n C dX12_errorPosition_5 rfl 0 rfl ?_
  refine tgX12_16 C q_1974 dX12_errorPosition_6 ?_
  refine ts_cm0_ge C rfl 20 dX12_errorPosition_9 rfl ?_ ?_
  · refine ts_aload_n C dX12_errorPosition_20 rfl 0 rfl ?_
    refine tgX12_16 C q_1974 dX12_errorPosition_21 ?_
    exact ts_sub [] rfl (H24 _ _)
  · refine ts_aload_n C dX12_errorPosition_12 rfl 0 rfl ?_
    refine ts_iconst C dX12_errorPosition_13 1 rfl ?_
    refine ts_callVi C [ts_v 1] (mX12_fails hl) kX12_fails q_2037 (by decide) shX12 rfl rfl rfl (Nat.le_of_ble_eq_true rfl) ⟨Nat.le_of_ble_eq_true rfl, Nat.le_of_ble_eq_true rfl⟩ ⟨Nat.le_of_ble_eq_true rfl, Nat.le_of_ble_eq_true rfl⟩ dX12_errorPosition_14 (fun r3 M2 => ?_)
    refine ts_goto C 24 dX12_errorPosition_17 rfl ?_
    exact ts_sub [] rfl (H24 _ _)
def wX12_failedCommand_B24   (Q : Int → ts_M → Prop)  (z0 : Int) (M : ts_M) : Prop :=
  Q z0 M
def wX12_failedCommand (Q : Int → ts_M → Prop) (M : ts_M) : Prop :=
  (∀ M1, M1 = ts_si M 164 0 0 → ((0 ≤ ts_w (M1.1 164 17) → wX12_failedCommand_B24 Q (M1.1 164 17) M1) ∧ (¬ (0 ≤ ts_w (M1.1 164 17)) → (wX12_fails 1 (fun r3 M2 => wX12_failedCommand_B24 Q r3 M2) M1))))
set_option maxRecDepth 100000 in
set_option maxHeartbeats 4000000 in
theorem mX12_failedCommand {l : Launch} {g : ts_W} (hl : l.stackTraces = false) {Q : Int → ts_M → Prop} {M : ts_M} : wX12_failedCommand Q M → ts_Con l g yX12_failedCommand cX12_failedCommand 1 (some .int) 1 0 0 [.ref (ts_ad g 164)] M (ts_Ri Q) := by
  intro h0
  refine ts_Con.of hl (by decide) (Nat.le_of_ble_eq_true rfl) ?_
  intro p e s m args below meth c C
  have H24 : ∀ (z0 : Int) (M : ts_M), wX12_failedCommand_B24   Q z0 M → ts_V p l e (ts_rm 1 0 0) s m args below meth c g 1 0 0 (MQ below (ts_Q g (ts_Ri Q)) args s 0 0 (ts_A g)) 24 [] [ts_v z0] M := by
    intro  z0 M
    unfold wX12_failedCommand_B24
    exact ts_ireti C (Nat.zero_le _) (Nat.zero_le _) dX12_failedCommand_24
  revert h0
  unfold wX12_failedCommand
  have hl0 : lv_args 0 [.ref (ts_ad g 164)] = [(0, .ref (ts_ad g 164))] := rfl
  rw [hl0]
  refine ts_aload_n C dX12_failedCommand_0 rfl 0 rfl ?_
  refine ts_iconst C dX12_failedCommand_1 0 rfl ?_
  refine tpX12_0 C q_1958 dX12_failedCommand_2 (fun M1 => ?_)
  refine ts_aload_n C dX12_failedCommand_5 rfl 0 rfl ?_
  refine tgX12_17 C q_1975 dX12_failedCommand_6 ?_
  refine ts_cm0_ge C rfl 20 dX12_failedCommand_9 rfl ?_ ?_
  · refine ts_aload_n C dX12_failedCommand_20 rfl 0 rfl ?_
    refine tgX12_17 C q_1975 dX12_failedCommand_21 ?_
    exact ts_sub [] rfl (H24 _ _)
  · refine ts_aload_n C dX12_failedCommand_12 rfl 0 rfl ?_
    refine ts_iconst C dX12_failedCommand_13 1 rfl ?_
    refine ts_callVi C [ts_v 1] (mX12_fails hl) kX12_fails q_2037 (by decide) shX12 rfl rfl rfl (Nat.le_of_ble_eq_true rfl) ⟨Nat.le_of_ble_eq_true rfl, Nat.le_of_ble_eq_true rfl⟩ ⟨Nat.le_of_ble_eq_true rfl, Nat.le_of_ble_eq_true rfl⟩ dX12_failedCommand_14 (fun r3 M2 => ?_)
    refine ts_goto C 24 dX12_failedCommand_17 rfl ?_
    exact ts_sub [] rfl (H24 _ _)
def wX12_undo_L43   (Q : Int → ts_M → Prop) (k43 : Int → Int → ts_M → Prop) (y1 : Int) (y2 : Int) (M : ts_M) : Prop :=
  ((146 ≤ ts_w y2 → Q (M.1 164 5) M) ∧ (¬ (146 ≤ ts_w y2) → ((0 ≤ ts_w ((146 * y1) + y2) ∧ ts_w ((146 * y1) + y2) < ((1168 : Nat) : Int)) ∧ ((0 ≤ ts_w y2 ∧ ts_w y2 < ((146 : Nat) : Int)) ∧ ∀ M5, M5 = ts_si M 165 (ts_w y2) (M.1 166 (ts_w ((146 * y1) + y2))) → (∀ x6 : Int, x6 = y2 + 1 → k43 y1 x6 M5)))))
def wX12_undo (Q : Int → ts_M → Prop) (M : ts_M) : Prop :=
  (∀ M1, M1 = ts_si M 164 0 0 → ((¬ (ts_w (M1.1 164 5) = 0) → (∀ M2, M2 = ts_si M1 164 5 ((M1.1 164 5) - 1) → (∀ x3 : Int, x3 = ts_rem ((M2.1 164 6) + (M2.1 164 5)) 8 → (∀ x4 : Int, x4 = 0 → ∃ n, ts_lp2 (wX12_undo_L43 Q) n x3 x4 M2)))) ∧ (ts_w (M1.1 164 5) = 0 → (wX12_fails 1 (fun r8 M7 => Q r8 M7) M1))))
set_option maxRecDepth 100000 in
set_option maxHeartbeats 4000000 in
theorem mX12_undo {l : Launch} {g : ts_W} (hl : l.stackTraces = false) {Q : Int → ts_M → Prop} {M : ts_M} : wX12_undo Q M → ts_Con l g yX12_undo cX12_undo 3 (some .int) 1 0 0 [.ref (ts_ad g 164)] M (ts_Ri Q) := by
  intro h0
  refine ts_Con.of hl (by decide) (Nat.le_of_ble_eq_true rfl) ?_
  intro p e s m args below meth c C
  have H43 : ∀ (n : Nat) (y1 : Int) (y2 : Int) (M : ts_M), ts_lp2 (wX12_undo_L43   Q) n y1 y2 M → ts_V p l e (ts_rm 1 0 0) s m args below meth c g 3 0 0 (MQ below (ts_Q g (ts_Ri Q)) args s 0 0 (ts_A g)) 43 [(0, .ref (ts_ad g 164)), (1, ts_v y1), (2, ts_v y2)] [] M := by
    refine ts_lpr2 (V := fun (y1 : Int) (y2 : Int) (M : ts_M) => ts_V p l e (ts_rm 1 0 0) s m args below meth c g 3 0 0 (MQ below (ts_Q g (ts_Ri Q)) args s 0 0 (ts_A g)) 43 [(0, .ref (ts_ad g 164)), (1, ts_v y1), (2, ts_v y2)] [] M) ?_
    intro k43 hk43 y1 y2 M
    unfold wX12_undo_L43
    refine ts_iload_n C dX12_undo_43 rfl 2 rfl ?_
    refine ts_sipush C dX12_undo_44 146 tsp_146 ?_
    refine ts_cmp_ge C rfl tw_146 74 dX12_undo_47 rfl ?_ ?_
    · refine ts_aload_n C dX12_undo_74 rfl 0 rfl ?_
      refine tgX12_5 C q_1963 dX12_undo_75 ?_
      exact ts_ireti C (Nat.zero_le _) (Nat.zero_le _) dX12_undo_78
    · refine ts_aload_n C dX12_undo_50 rfl 0 rfl ?_
      refine tgX12_1 C q_1959 dX12_undo_51 ?_
      refine ts_iload_n C dX12_undo_54 rfl 2 rfl ?_
      refine ts_aload_n C dX12_undo_55 rfl 0 rfl ?_
      refine tgX12_2 C q_1960 dX12_undo_56 ?_
      refine ts_sipush C dX12_undo_59 146 tsp_146 ?_
      refine ts_iload_n C dX12_undo_62 rfl 1 rfl ?_
      refine ts_imul C dX12_undo_63 ?_
      refine ts_iload_n C dX12_undo_64 rfl 2 rfl ?_
      refine ts_iadd C dX12_undo_65 ?_
      refine ts_iald C (by decide) shG166 dX12_undo_66 ?_
      refine ts_iast C (by decide) shG165 dX12_undo_67 (fun M5 => ?_)
      refine ts_iinc C dX12_undo_68 2 rfl (by decide) (lv' := fun x6 => [(2, ts_v x6), (0, .ref (ts_ad g 164)), (1, ts_v y1)]) (fun _ => rfl) (fun x6 => ?_)
      refine ts_goto C 43 dX12_undo_71 rfl ?_
      exact ts_sub [1, 2, 0] rfl (hk43 _ _ _)
  revert h0
  unfold wX12_undo
  have hl0 : lv_args 0 [.ref (ts_ad g 164)] = [(0, .ref (ts_ad g 164))] := rfl
  rw [hl0]
  refine ts_aload_n C dX12_undo_0 rfl 0 rfl ?_
  refine ts_iconst C dX12_undo_1 0 rfl ?_
  refine tpX12_0 C q_1958 dX12_undo_2 (fun M1 => ?_)
  refine ts_aload_n C dX12_undo_5 rfl 0 rfl ?_
  refine tgX12_5 C q_1963 dX12_undo_6 ?_
  refine ts_cm0_ne C rfl 18 dX12_undo_9 rfl ?_ ?_
  · refine ts_aload_n C dX12_undo_18 rfl 0 rfl ?_
    refine ts_dup C dX12_undo_19 rfl ?_
    refine tgX12_5 C q_1963 dX12_undo_20 ?_
    refine ts_iconst C dX12_undo_23 1 rfl ?_
    refine ts_isub C dX12_undo_24 ?_
    refine tpX12_5 C q_1963 dX12_undo_25 (fun M2 => ?_)
    refine ts_aload_n C dX12_undo_28 rfl 0 rfl ?_
    refine tgX12_6 C q_1964 dX12_undo_29 ?_
    refine ts_aload_n C dX12_undo_32 rfl 0 rfl ?_
    refine tgX12_5 C q_1963 dX12_undo_33 ?_
    refine ts_iadd C dX12_undo_36 ?_
    refine ts_bipush C dX12_undo_37 8 tb_8 ?_
    refine ts_iremc C (by rw [tw_8]; decide) dX12_undo_39 ?_
    refine ts_istore_n C dX12_undo_40 rfl (by decide) (lv' := fun x3 => [(1, ts_v x3), (0, .ref (ts_ad g 164))]) (fun _ => rfl) (fun x3 => ?_)
    refine ts_iconst C dX12_undo_41 0 rfl ?_
    refine ts_istore_n C dX12_undo_42 rfl (by decide) (lv' := fun x4 => [(2, ts_v x4), (1, ts_v x3), (0, .ref (ts_ad g 164))]) (fun _ => rfl) (fun x4 => ?_)
    rintro ⟨n, hn⟩
    exact ts_sub [2, 1, 0] rfl (H43 n _ _ _) hn
  · refine ts_aload_n C dX12_undo_12 rfl 0 rfl ?_
    refine ts_iconst C dX12_undo_13 1 rfl ?_
    refine ts_callVi C [ts_v 1] (mX12_fails hl) kX12_fails q_2037 (by decide) shX12 rfl rfl rfl (Nat.le_of_ble_eq_true rfl) ⟨Nat.le_of_ble_eq_true rfl, Nat.le_of_ble_eq_true rfl⟩ ⟨Nat.le_of_ble_eq_true rfl, Nat.le_of_ble_eq_true rfl⟩ dX12_undo_14 (fun r8 M7 => ?_)
    exact ts_ireti C (Nat.zero_le _) (Nat.zero_le _) dX12_undo_17
def wX12_save_L7   (Q : Int → ts_M → Prop) (k7 : Int → ts_M → Prop) (y1 : Int) (M : ts_M) : Prop :=
  ((146 ≤ ts_w y1 → (∀ M3, M3 = ts_si M 164 7 1 → Q (M3.1 165 0) M3)) ∧ (¬ (146 ≤ ts_w y1) → ((0 ≤ ts_w y1 ∧ ts_w y1 < ((146 : Nat) : Int)) ∧ ((0 ≤ ts_w y1 ∧ ts_w y1 < ((146 : Nat) : Int)) ∧ ∀ M4, M4 = ts_si M 167 (ts_w y1) (M.1 165 (ts_w y1)) → (∀ x5 : Int, x5 = y1 + 1 → k7 x5 M4)))))
def wX12_save (Q : Int → ts_M → Prop) (M : ts_M) : Prop :=
  (∀ M1, M1 = ts_si M 164 0 0 → (∀ x2 : Int, x2 = 0 → ∃ n, ts_lp1 (wX12_save_L7 Q) n x2 M1))
set_option maxRecDepth 100000 in
set_option maxHeartbeats 4000000 in
theorem mX12_save {l : Launch} {g : ts_W} (hl : l.stackTraces = false) {Q : Int → ts_M → Prop} {M : ts_M} : wX12_save Q M → ts_Con l g yX12_save cX12_save 2 (some .int) 0 0 0 [.ref (ts_ad g 164)] M (ts_Ri Q) := by
  intro h0
  refine ts_Con.of hl (by decide) (Nat.le_of_ble_eq_true rfl) ?_
  intro p e s m args below meth c C
  have H7 : ∀ (n : Nat) (y1 : Int) (M : ts_M), ts_lp1 (wX12_save_L7   Q) n y1 M → ts_V p l e (ts_rm 0 0 0) s m args below meth c g 2 0 0 (MQ below (ts_Q g (ts_Ri Q)) args s 0 0 (ts_A g)) 7 [(0, .ref (ts_ad g 164)), (1, ts_v y1)] [] M := by
    refine ts_lpr1 (V := fun (y1 : Int) (M : ts_M) => ts_V p l e (ts_rm 0 0 0) s m args below meth c g 2 0 0 (MQ below (ts_Q g (ts_Ri Q)) args s 0 0 (ts_A g)) 7 [(0, .ref (ts_ad g 164)), (1, ts_v y1)] [] M) ?_
    intro k7 hk7 y1 M
    unfold wX12_save_L7
    refine ts_iload_n C dX12_save_7 rfl 1 rfl ?_
    refine ts_sipush C dX12_save_8 146 tsp_146 ?_
    refine ts_cmp_ge C rfl tw_146 32 dX12_save_11 rfl ?_ ?_
    · refine ts_aload_n C dX12_save_32 rfl 0 rfl ?_
      refine ts_iconst C dX12_save_33 1 rfl ?_
      refine tpX12_7c C (by decide) q_1965 dX12_save_34 (fun M3 => ?_)
      refine ts_aload_n C dX12_save_37 rfl 0 rfl ?_
      refine tgX12_1 C q_1959 dX12_save_38 ?_
      refine ts_iconst C dX12_save_41 0 rfl ?_
      refine ts_ialdc C (by decide) shG165 tw_0 (by decide) dX12_save_42 ?_
      exact ts_ireti C (Nat.zero_le _) (Nat.zero_le _) dX12_save_43
    · refine ts_aload_n C dX12_save_14 rfl 0 rfl ?_
      refine tgX12_3 C q_1961 dX12_save_15 ?_
      refine ts_iload_n C dX12_save_18 rfl 1 rfl ?_
      refine ts_aload_n C dX12_save_19 rfl 0 rfl ?_
      refine tgX12_1 C q_1959 dX12_save_20 ?_
      refine ts_iload_n C dX12_save_23 rfl 1 rfl ?_
      refine ts_iald C (by decide) shG165 dX12_save_24 ?_
      refine ts_iast C (by decide) shG167 dX12_save_25 (fun M4 => ?_)
      refine ts_iinc C dX12_save_26 1 rfl (by decide) (lv' := fun x5 => [(1, ts_v x5), (0, .ref (ts_ad g 164))]) (fun _ => rfl) (fun x5 => ?_)
      refine ts_goto C 7 dX12_save_29 rfl ?_
      exact ts_sub [1, 0] rfl (hk7 _ _)
  revert h0
  unfold wX12_save
  have hl0 : lv_args 0 [.ref (ts_ad g 164)] = [(0, .ref (ts_ad g 164))] := rfl
  rw [hl0]
  refine ts_aload_n C dX12_save_0 rfl 0 rfl ?_
  refine ts_iconst C dX12_save_1 0 rfl ?_
  refine tpX12_0 C q_1958 dX12_save_2 (fun M1 => ?_)
  refine ts_iconst C dX12_save_5 0 rfl ?_
  refine ts_istore_n C dX12_save_6 rfl (by decide) (lv' := fun x2 => [(1, ts_v x2), (0, .ref (ts_ad g 164))]) (fun _ => rfl) (fun x2 => ?_)
  rintro ⟨n, hn⟩
  exact ts_sub [1, 0] rfl (H7 n _ _) hn
def wX12_restore_L20   (Q : Int → ts_M → Prop) (k20 : Int → ts_M → Prop) (y1 : Int) (M : ts_M) : Prop :=
  ((146 ≤ ts_w y1 → (∀ M3, M3 = ts_si M 164 5 0 → (∀ M4, M4 = ts_si M3 164 6 0 → Q (M4.1 165 0) M4))) ∧ (¬ (146 ≤ ts_w y1) → ((0 ≤ ts_w y1 ∧ ts_w y1 < ((146 : Nat) : Int)) ∧ ((0 ≤ ts_w y1 ∧ ts_w y1 < ((146 : Nat) : Int)) ∧ ∀ M5, M5 = ts_si M 165 (ts_w y1) (M.1 167 (ts_w y1)) → (∀ x6 : Int, x6 = y1 + 1 → k20 x6 M5)))))
def wX12_restore (Q : Int → ts_M → Prop) (M : ts_M) : Prop :=
  (∀ M1, M1 = ts_si M 164 0 0 → ((¬ (ts_w (M1.1 164 7) = 0) → (∀ x2 : Int, x2 = 0 → ∃ n, ts_lp1 (wX12_restore_L20 Q) n x2 M1)) ∧ (ts_w (M1.1 164 7) = 0 → (wX12_fails 1 (fun r8 M7 => Q r8 M7) M1))))
set_option maxRecDepth 100000 in
set_option maxHeartbeats 4000000 in
theorem mX12_restore {l : Launch} {g : ts_W} (hl : l.stackTraces = false) {Q : Int → ts_M → Prop} {M : ts_M} : wX12_restore Q M → ts_Con l g yX12_restore cX12_restore 2 (some .int) 1 0 0 [.ref (ts_ad g 164)] M (ts_Ri Q) := by
  intro h0
  refine ts_Con.of hl (by decide) (Nat.le_of_ble_eq_true rfl) ?_
  intro p e s m args below meth c C
  have H20 : ∀ (n : Nat) (y1 : Int) (M : ts_M), ts_lp1 (wX12_restore_L20   Q) n y1 M → ts_V p l e (ts_rm 1 0 0) s m args below meth c g 2 0 0 (MQ below (ts_Q g (ts_Ri Q)) args s 0 0 (ts_A g)) 20 [(0, .ref (ts_ad g 164)), (1, ts_v y1)] [] M := by
    refine ts_lpr1 (V := fun (y1 : Int) (M : ts_M) => ts_V p l e (ts_rm 1 0 0) s m args below meth c g 2 0 0 (MQ below (ts_Q g (ts_Ri Q)) args s 0 0 (ts_A g)) 20 [(0, .ref (ts_ad g 164)), (1, ts_v y1)] [] M) ?_
    intro k20 hk20 y1 M
    unfold wX12_restore_L20
    refine ts_iload_n C dX12_restore_20 rfl 1 rfl ?_
    refine ts_sipush C dX12_restore_21 146 tsp_146 ?_
    refine ts_cmp_ge C rfl tw_146 45 dX12_restore_24 rfl ?_ ?_
    · refine ts_aload_n C dX12_restore_45 rfl 0 rfl ?_
      refine ts_iconst C dX12_restore_46 0 rfl ?_
      refine tpX12_5 C q_1963 dX12_restore_47 (fun M3 => ?_)
      refine ts_aload_n C dX12_restore_50 rfl 0 rfl ?_
      refine ts_iconst C dX12_restore_51 0 rfl ?_
      refine tpX12_6 C q_1964 dX12_restore_52 (fun M4 => ?_)
      refine ts_aload_n C dX12_restore_55 rfl 0 rfl ?_
      refine tgX12_1 C q_1959 dX12_restore_56 ?_
      refine ts_iconst C dX12_restore_59 0 rfl ?_
      refine ts_ialdc C (by decide) shG165 tw_0 (by decide) dX12_restore_60 ?_
      exact ts_ireti C (Nat.zero_le _) (Nat.zero_le _) dX12_restore_61
    · refine ts_aload_n C dX12_restore_27 rfl 0 rfl ?_
      refine tgX12_1 C q_1959 dX12_restore_28 ?_
      refine ts_iload_n C dX12_restore_31 rfl 1 rfl ?_
      refine ts_aload_n C dX12_restore_32 rfl 0 rfl ?_
      refine tgX12_3 C q_1961 dX12_restore_33 ?_
      refine ts_iload_n C dX12_restore_36 rfl 1 rfl ?_
      refine ts_iald C (by decide) shG167 dX12_restore_37 ?_
      refine ts_iast C (by decide) shG165 dX12_restore_38 (fun M5 => ?_)
      refine ts_iinc C dX12_restore_39 1 rfl (by decide) (lv' := fun x6 => [(1, ts_v x6), (0, .ref (ts_ad g 164))]) (fun _ => rfl) (fun x6 => ?_)
      refine ts_goto C 20 dX12_restore_42 rfl ?_
      exact ts_sub [1, 0] rfl (hk20 _ _)
  revert h0
  unfold wX12_restore
  have hl0 : lv_args 0 [.ref (ts_ad g 164)] = [(0, .ref (ts_ad g 164))] := rfl
  rw [hl0]
  refine ts_aload_n C dX12_restore_0 rfl 0 rfl ?_
  refine ts_iconst C dX12_restore_1 0 rfl ?_
  refine tpX12_0 C q_1958 dX12_restore_2 (fun M1 => ?_)
  refine ts_aload_n C dX12_restore_5 rfl 0 rfl ?_
  refine tgX12_7 C q_1965 dX12_restore_6 ?_
  refine ts_cm0_ne C rfl 18 dX12_restore_9 rfl ?_ ?_
  · refine ts_iconst C dX12_restore_18 0 rfl ?_
    refine ts_istore_n C dX12_restore_19 rfl (by decide) (lv' := fun x2 => [(1, ts_v x2), (0, .ref (ts_ad g 164))]) (fun _ => rfl) (fun x2 => ?_)
    rintro ⟨n, hn⟩
    exact ts_sub [1, 0] rfl (H20 n _ _) hn
  · refine ts_aload_n C dX12_restore_12 rfl 0 rfl ?_
    refine ts_iconst C dX12_restore_13 1 rfl ?_
    refine ts_callVi C [ts_v 1] (mX12_fails hl) kX12_fails q_2037 (by decide) shX12 rfl rfl rfl (Nat.le_of_ble_eq_true rfl) ⟨Nat.le_of_ble_eq_true rfl, Nat.le_of_ble_eq_true rfl⟩ ⟨Nat.le_of_ble_eq_true rfl, Nat.le_of_ble_eq_true rfl⟩ dX12_restore_14 (fun r8 M7 => ?_)
    exact ts_ireti C (Nat.zero_le _) (Nat.zero_le _) dX12_restore_17
def wX1_hasCell_B25   (Q : Int → ts_M → Prop)  (z0 : Int) (M : ts_M) : Prop :=
  ((ts_w z0 = 0 ∨ ts_w z0 = 1) ∧ Q z0 M)
def wX1_hasCell_B24   (Q : Int → ts_M → Prop)   (M : ts_M) : Prop :=
  wX1_hasCell_B25 Q 0 M
def wX1_hasCell (p1 : Int) (p2 : Int) (Q : Int → ts_M → Prop) (M : ts_M) : Prop :=
  (wX11_isBetween p1 0 7 (fun r2 M1 => ((ts_w r2 = 0 → wX1_hasCell_B24 Q M1) ∧ (¬ (ts_w r2 = 0) → (wX11_isBetween p2 0 7 (fun r4 M3 => ((ts_w r4 = 0 → wX1_hasCell_B24 Q M3) ∧ (¬ (ts_w r4 = 0) → wX1_hasCell_B25 Q 1 M3))) M1)))) M)
set_option maxRecDepth 100000 in
set_option maxHeartbeats 4000000 in
theorem mX1_hasCell {l : Launch} {g : ts_W} (hl : l.stackTraces = false) {p1 : Int} {p2 : Int} {Q : Int → ts_M → Prop} {M : ts_M} : wX1_hasCell p1 p2 Q M → ts_Con l g yX1_hasCell cX1_hasCell 2 (some .boolean) 1 0 0 [ts_v p1, ts_v p2] M (ts_Ri Q) := by
  intro h0
  refine ts_Con.of hl (by decide) (Nat.le_of_ble_eq_true rfl) ?_
  intro p e s m args below meth c C
  have H25 : ∀ (z0 : Int) (M : ts_M), wX1_hasCell_B25   Q z0 M → ts_V p l e (ts_rm 1 0 0) s m args below meth c g 2 0 0 (MQ below (ts_Q g (ts_Ri Q)) args s 0 0 (ts_A g)) 25 [] [ts_v z0] M := by
    intro  z0 M
    unfold wX1_hasCell_B25
    exact ts_zreti C (Nat.zero_le _) (Nat.zero_le _) dX1_hasCell_25
  have H24 : ∀  (M : ts_M), wX1_hasCell_B24   Q  M → ts_V p l e (ts_rm 1 0 0) s m args below meth c g 2 0 0 (MQ below (ts_Q g (ts_Ri Q)) args s 0 0 (ts_A g)) 24 [] [] M := by
    intro   M
    unfold wX1_hasCell_B24
    refine ts_iconst C dX1_hasCell_24 0 rfl ?_
    exact ts_sub [] rfl (H25 _ _)
  revert h0
  unfold wX1_hasCell
  have hl0 : lv_args 0 [ts_v p1, ts_v p2] = [(0, ts_v p1), (1, ts_v p2)] := rfl
  rw [hl0]
  refine ts_iload_n C dX1_hasCell_0 rfl 0 rfl ?_
  refine ts_iconst C dX1_hasCell_1 0 rfl ?_
  refine ts_bipush C dX1_hasCell_2 7 tb_7 ?_
  refine ts_callSNi (host := "TeaspoonSalon") C [ts_v p1, ts_v 0, ts_v 7] (mX11_isBetween hl) kX11_isBetween qn_14 rfl rfl (Nat.le_of_ble_eq_true rfl) ⟨Nat.le_of_ble_eq_true rfl, Nat.le_of_ble_eq_true rfl⟩ ⟨Nat.le_of_ble_eq_true rfl, Nat.le_of_ble_eq_true rfl⟩ dX1_hasCell_4 (fun r2 M1 => ?_)
  refine ts_cm0_eq C rfl 24 dX1_hasCell_7 rfl ?_ ?_
  · exact ts_sub [] rfl (H24 _)
  · refine ts_iload_n C dX1_hasCell_10 rfl 1 rfl ?_
    refine ts_iconst C dX1_hasCell_11 0 rfl ?_
    refine ts_bipush C dX1_hasCell_12 7 tb_7 ?_
    refine ts_callSNi (host := "TeaspoonSalon") C [ts_v p2, ts_v 0, ts_v 7] (mX11_isBetween hl) kX11_isBetween qn_14 rfl rfl (Nat.le_of_ble_eq_true rfl) ⟨Nat.le_of_ble_eq_true rfl, Nat.le_of_ble_eq_true rfl⟩ ⟨Nat.le_of_ble_eq_true rfl, Nat.le_of_ble_eq_true rfl⟩ dX1_hasCell_14 (fun r4 M3 => ?_)
    refine ts_cm0_eq C rfl 24 dX1_hasCell_17 rfl ?_ ?_
    · exact ts_sub [] rfl (H24 _)
    · refine ts_iconst C dX1_hasCell_20 1 rfl ?_
      refine ts_goto C 25 dX1_hasCell_21 rfl ?_
      exact ts_sub [] rfl (H25 _ _)
def wX1_cell (p1 : Int) (p2 : Int) (Q : Int64 → ts_M → Prop) (M : ts_M) : Prop :=
  Q (ts_lshl 1 ((p1 * 8) + p2)) M
set_option maxRecDepth 100000 in
set_option maxHeartbeats 4000000 in
theorem mX1_cell {l : Launch} {g : ts_W} (hl : l.stackTraces = false) {p1 : Int} {p2 : Int} {Q : Int64 → ts_M → Prop} {M : ts_M} : wX1_cell p1 p2 Q M → ts_Con l g yX1_cell cX1_cell 2 (some .long) 0 0 0 [ts_v p1, ts_v p2] M (ts_Rl Q) := by
  intro h0
  refine ts_Con.of hl (by decide) (Nat.le_of_ble_eq_true rfl) ?_
  intro p e s m args below meth c C
  revert h0
  unfold wX1_cell
  have hl0 : lv_args 0 [ts_v p1, ts_v p2] = [(0, ts_v p1), (1, ts_v p2)] := rfl
  rw [hl0]
  refine ts_lconst C dX1_cell_0 1 rfl ?_
  refine ts_iload_n C dX1_cell_1 rfl 0 rfl ?_
  refine ts_bipush C dX1_cell_2 8 tb_8 ?_
  refine ts_imul C dX1_cell_4 ?_
  refine ts_iload_n C dX1_cell_5 rfl 1 rfl ?_
  refine ts_iadd C dX1_cell_6 ?_
  refine ts_lshl0 C dX1_cell_7 ?_
  exact ts_lreti C (Nat.zero_le _) (Nat.zero_le _) dX1_cell_8
def wX1_neighbours (p1 : Int64) (Q : Int64 → ts_M → Prop) (M : ts_M) : Prop :=
  Q ((((ts_lshl p1 8) ||| (ts_lushr p1 8)) ||| (ts_lushr (p1 &&& (-72340172838076674)) 1)) ||| (ts_lshl (p1 &&& 9187201950435737471) 1)) M
set_option maxRecDepth 100000 in
set_option maxHeartbeats 4000000 in
theorem mX1_neighbours {l : Launch} {g : ts_W} (hl : l.stackTraces = false) {p1 : Int64} {Q : Int64 → ts_M → Prop} {M : ts_M} : wX1_neighbours p1 Q M → ts_Con l g yX1_neighbours cX1_neighbours 2 (some .long) 0 0 0 [.long p1] M (ts_Rl Q) := by
  intro h0
  refine ts_Con.of hl (by decide) (Nat.le_of_ble_eq_true rfl) ?_
  intro p e s m args below meth c C
  revert h0
  unfold wX1_neighbours
  have hl0 : lv_args 0 [.long p1] = [(0, .long p1)] := rfl
  rw [hl0]
  refine ts_lload_n C dX1_neighbours_0 rfl 0 rfl ?_
  refine ts_bipush C dX1_neighbours_1 8 tb_8 ?_
  refine ts_lshl0 C dX1_neighbours_3 ?_
  refine ts_lload_n C dX1_neighbours_4 rfl 0 rfl ?_
  refine ts_bipush C dX1_neighbours_5 8 tb_8 ?_
  refine ts_lushr0 C dX1_neighbours_7 ?_
  refine ts_lor C dX1_neighbours_8 ?_
  refine ts_lload_n C dX1_neighbours_9 rfl 0 rfl ?_
  refine ts_ldc2 C (-72340172838076674) dX1_neighbours_10 q_555 ?_
  refine ts_land C dX1_neighbours_13 ?_
  refine ts_iconst C dX1_neighbours_14 1 rfl ?_
  refine ts_lushr0 C dX1_neighbours_15 ?_
  refine ts_lor C dX1_neighbours_16 ?_
  refine ts_lload_n C dX1_neighbours_17 rfl 0 rfl ?_
  refine ts_ldc2 C 9187201950435737471 dX1_neighbours_18 q_556 ?_
  refine ts_land C dX1_neighbours_21 ?_
  refine ts_iconst C dX1_neighbours_22 1 rfl ?_
  refine ts_lshl0 C dX1_neighbours_23 ?_
  refine ts_lor C dX1_neighbours_24 ?_
  exact ts_lreti C (Nat.zero_le _) (Nat.zero_le _) dX1_neighbours_25
def wX1_firstOf (p1 : Int64) (Q : Int64 → ts_M → Prop) (M : ts_M) : Prop :=
  Q (p1 &&& (-p1)) M
set_option maxRecDepth 100000 in
set_option maxHeartbeats 4000000 in
theorem mX1_firstOf {l : Launch} {g : ts_W} (hl : l.stackTraces = false) {p1 : Int64} {Q : Int64 → ts_M → Prop} {M : ts_M} : wX1_firstOf p1 Q M → ts_Con l g yX1_firstOf cX1_firstOf 2 (some .long) 0 0 0 [.long p1] M (ts_Rl Q) := by
  intro h0
  refine ts_Con.of hl (by decide) (Nat.le_of_ble_eq_true rfl) ?_
  intro p e s m args below meth c C
  revert h0
  unfold wX1_firstOf
  have hl0 : lv_args 0 [.long p1] = [(0, .long p1)] := rfl
  rw [hl0]
  refine ts_lload_n C dX1_firstOf_0 rfl 0 rfl ?_
  refine ts_lload_n C dX1_firstOf_1 rfl 0 rfl ?_
  refine ts_lneg C dX1_firstOf_2 ?_
  refine ts_land C dX1_firstOf_3 ?_
  exact ts_lreti C (Nat.zero_le _) (Nat.zero_le _) dX1_firstOf_4
def wX1_wetAt (b : Nat) (p1 : Int) (p2 : Int) (Q : Int64 → ts_M → Prop) (M : ts_M) : Prop :=
  (wX1_cell p1 p2 (fun r2 M1 => Q ((M.2.1 (b + 11) 0) &&& r2) M1) M)
set_option maxRecDepth 100000 in
set_option maxHeartbeats 4000000 in
theorem mX1_wetAt {l : Launch} {g : ts_W} (hl : l.stackTraces = false) {b : Nat} (hb : ts_isS b) {p1 : Int} {p2 : Int} {Q : Int64 → ts_M → Prop} {M : ts_M} : wX1_wetAt b p1 p2 Q M → ts_Con l g yX1_wetAt cX1_wetAt 3 (some .long) 1 0 0 [.ref (ts_ad g (b + 11)), ts_v p1, ts_v p2] M (ts_Rl Q) := by
  intro h0
  refine ts_Con.of hl (by decide) (Nat.le_of_ble_eq_true rfl) ?_
  intro p e s m args below meth c C
  revert h0
  unfold wX1_wetAt
  have hl0 : lv_args 0 [.ref (ts_ad g (b + 11)), ts_v p1, ts_v p2] = [(0, .ref (ts_ad g (b + 11))), (1, ts_v p1), (2, ts_v p2)] := rfl
  rw [hl0]
  refine ts_aload_n C dX1_wetAt_0 rfl 0 rfl ?_
  refine tgX1_0 hb C q_277 dX1_wetAt_1 ?_
  refine ts_iload_n C dX1_wetAt_4 rfl 1 rfl ?_
  refine ts_iload_n C dX1_wetAt_5 rfl 2 rfl ?_
  refine ts_callSl C [ts_v p1, ts_v p2] (mX1_cell hl) kX1_cell q_644 rfl rfl (Nat.le_of_ble_eq_true rfl) ⟨Nat.le_of_ble_eq_true rfl, Nat.le_of_ble_eq_true rfl⟩ ⟨Nat.le_of_ble_eq_true rfl, Nat.le_of_ble_eq_true rfl⟩ dX1_wetAt_6 (fun r2 M1 => ?_)
  refine ts_land C dX1_wetAt_9 ?_
  exact ts_lreti C (Nat.zero_le _) (Nat.zero_le _) dX1_wetAt_10
def wX1_moisten_B23 (b : Nat)  (Q : Int → ts_M → Prop)   (M : ts_M) : Prop :=
  Q 0 M
def wX1_moisten (b : Nat) (p1 : Int) (p2 : Int) (p3 : Int) (Q : Int → ts_M → Prop) (M : ts_M) : Prop :=
  ((ts_w p3 ≤ 0 → wX1_moisten_B23 b Q M) ∧ (¬ (ts_w p3 ≤ 0) → (wX1_hasCell p1 p2 (fun r2 M1 => ((ts_w r2 = 0 → wX1_moisten_B23 b Q M1) ∧ (¬ (ts_w r2 = 0) → (wX1_wetAt b p1 p2 (fun r4 M3 => ((r4 = 0 → (wX1_cell p1 p2 (fun r6 M5 => (∀ M7, M7 = ts_sl M5 (b + 11) 0 ((M3.2.1 (b + 11) 0) ||| r6) → Q 1 M7)) M3)) ∧ (¬ (r4 = 0) → wX1_moisten_B23 b Q M3))) M1)))) M)))
set_option maxRecDepth 100000 in
set_option maxHeartbeats 4000000 in
theorem mX1_moisten {l : Launch} {g : ts_W} (hl : l.stackTraces = false) {b : Nat} (hb : ts_isS b) {p1 : Int} {p2 : Int} {p3 : Int} {Q : Int → ts_M → Prop} {M : ts_M} : wX1_moisten b p1 p2 p3 Q M → ts_Con l g yX1_moisten cX1_moisten 4 (some .int) 2 0 0 [.ref (ts_ad g (b + 11)), ts_v p1, ts_v p2, ts_v p3] M (ts_Ri Q) := by
  intro h0
  refine ts_Con.of hl (by decide) (Nat.le_of_ble_eq_true rfl) ?_
  intro p e s m args below meth c C
  have H23 : ∀  (M : ts_M), wX1_moisten_B23 b  Q  M → ts_V p l e (ts_rm 2 0 0) s m args below meth c g 4 0 0 (MQ below (ts_Q g (ts_Ri Q)) args s 0 0 (ts_A g)) 23 [] [] M := by
    intro   M
    unfold wX1_moisten_B23
    refine ts_iconst C dX1_moisten_23 0 rfl ?_
    exact ts_ireti C (Nat.zero_le _) (Nat.zero_le _) dX1_moisten_24
  revert h0
  unfold wX1_moisten
  have hl0 : lv_args 0 [.ref (ts_ad g (b + 11)), ts_v p1, ts_v p2, ts_v p3] = [(0, .ref (ts_ad g (b + 11))), (1, ts_v p1), (2, ts_v p2), (3, ts_v p3)] := rfl
  rw [hl0]
  refine ts_iload_n C dX1_moisten_0 rfl 3 rfl ?_
  refine ts_cm0_le C rfl 23 dX1_moisten_1 rfl ?_ ?_
  · exact ts_sub [] rfl (H23 _)
  · refine ts_iload_n C dX1_moisten_4 rfl 1 rfl ?_
    refine ts_iload_n C dX1_moisten_5 rfl 2 rfl ?_
    refine ts_callSi C [ts_v p1, ts_v p2] (mX1_hasCell hl) kX1_hasCell q_1382 rfl rfl (Nat.le_of_ble_eq_true rfl) ⟨Nat.le_of_ble_eq_true rfl, Nat.le_of_ble_eq_true rfl⟩ ⟨Nat.le_of_ble_eq_true rfl, Nat.le_of_ble_eq_true rfl⟩ dX1_moisten_6 (fun r2 M1 => ?_)
    refine ts_cm0_eq C rfl 23 dX1_moisten_9 rfl ?_ ?_
    · exact ts_sub [] rfl (H23 _)
    · refine ts_aload_n C dX1_moisten_12 rfl 0 rfl ?_
      refine ts_iload_n C dX1_moisten_13 rfl 1 rfl ?_
      refine ts_iload_n C dX1_moisten_14 rfl 2 rfl ?_
      refine ts_callVl C [ts_v p1, ts_v p2] (mX1_wetAt hl hb) kX1_wetAt q_640 (ts_lt hb 11 (by decide)) (shX1 hb) rfl rfl rfl (Nat.le_of_ble_eq_true rfl) ⟨Nat.le_of_ble_eq_true rfl, Nat.le_of_ble_eq_true rfl⟩ ⟨Nat.le_of_ble_eq_true rfl, Nat.le_of_ble_eq_true rfl⟩ dX1_moisten_15 (fun r4 M3 => ?_)
      refine ts_lconst C dX1_moisten_18 0 rfl ?_
      refine ts_lcmp C dX1_moisten_19 ?_
      refine ts_lif_eq C 25 dX1_moisten_20 rfl ?_ ?_
      · refine ts_aload_n C dX1_moisten_25 rfl 0 rfl ?_
        refine ts_dup C dX1_moisten_26 rfl ?_
        refine tgX1_0 hb C q_277 dX1_moisten_27 ?_
        refine ts_iload_n C dX1_moisten_30 rfl 1 rfl ?_
        refine ts_iload_n C dX1_moisten_31 rfl 2 rfl ?_
        refine ts_callSl C [ts_v p1, ts_v p2] (mX1_cell hl) kX1_cell q_644 rfl rfl (Nat.le_of_ble_eq_true rfl) ⟨Nat.le_of_ble_eq_true rfl, Nat.le_of_ble_eq_true rfl⟩ ⟨Nat.le_of_ble_eq_true rfl, Nat.le_of_ble_eq_true rfl⟩ dX1_moisten_32 (fun r6 M5 => ?_)
        refine ts_lor C dX1_moisten_35 ?_
        refine tpX1_0 hb C q_277 dX1_moisten_36 (fun M7 => ?_)
        refine ts_iconst C dX1_moisten_39 1 rfl ?_
        exact ts_ireti C (Nat.zero_le _) (Nat.zero_le _) dX1_moisten_40
      · exact ts_sub [] rfl (H23 _)
def wX1_walkFrom_B66 (b : Nat)  (Q : Int64 → ts_M → Prop)  (y3 : Int64) (M : ts_M) : Prop :=
  Q y3 M
def wX1_walkFrom_L13 (b : Nat)  (Q : Int64 → ts_M → Prop) (k13 : Int64 → Int64 → Int → ts_M → Prop) (y3 : Int64) (y5 : Int64) (y7 : Int) (M : ts_M) : Prop :=
  ((64 ≤ ts_w y7 → wX1_walkFrom_B66 b Q y3 M) ∧ (¬ (64 ≤ ts_w y7) → ((y5 = 0 → wX1_walkFrom_B66 b Q y3 M) ∧ (¬ (y5 = 0) → (wX1_firstOf y5 (fun r5 M4 => (∀ x6 : Int64, x6 = r5 → (∀ x7 : Int64, x7 = y3 ||| x6 → (wX1_neighbours x6 (fun r9 M8 => (∀ x10 : Int64, x10 = ((y5 ||| r9) &&& (M8.2.1 (b + 11) 0)) &&& (x7 ^^^ (-1)) → (∀ x11 : Int, x11 = y7 + 1 → k13 x7 x10 x11 M8))) M4)))) M)))))
def wX1_walkFrom (b : Nat) (p1 : Int64) (Q : Int64 → ts_M → Prop) (M : ts_M) : Prop :=
  (∀ x1 : Int64, x1 = 0 → (∀ x2 : Int64, x2 = (M.2.1 (b + 11) 0) &&& p1 → (∀ x3 : Int, x3 = 0 → ∃ n, ts_lp3 (wX1_walkFrom_L13 b Q) n x1 x2 x3 M)))
set_option maxRecDepth 100000 in
set_option maxHeartbeats 4000000 in
theorem mX1_walkFrom {l : Launch} {g : ts_W} (hl : l.stackTraces = false) {b : Nat} (hb : ts_isS b) {p1 : Int64} {Q : Int64 → ts_M → Prop} {M : ts_M} : wX1_walkFrom b p1 Q M → ts_Con l g yX1_walkFrom cX1_walkFrom 10 (some .long) 1 0 0 [.ref (ts_ad g (b + 11)), .long p1] M (ts_Rl Q) := by
  intro h0
  refine ts_Con.of hl (by decide) (Nat.le_of_ble_eq_true rfl) ?_
  intro p e s m args below meth c C
  have H66 : ∀ (y3 : Int64) (M : ts_M), wX1_walkFrom_B66 b  Q y3 M → ts_V p l e (ts_rm 1 0 0) s m args below meth c g 10 0 0 (MQ below (ts_Q g (ts_Rl Q)) args s 0 0 (ts_A g)) 66 [(3, .long y3)] [] M := by
    intro  y3 M
    unfold wX1_walkFrom_B66
    refine ts_lload_n C dX1_walkFrom_66 rfl 0 rfl ?_
    exact ts_lreti C (Nat.zero_le _) (Nat.zero_le _) dX1_walkFrom_67
  have H13 : ∀ (n : Nat) (y3 : Int64) (y5 : Int64) (y7 : Int) (M : ts_M), ts_lp3 (wX1_walkFrom_L13 b  Q) n y3 y5 y7 M → ts_V p l e (ts_rm 1 0 0) s m args below meth c g 10 0 0 (MQ below (ts_Q g (ts_Rl Q)) args s 0 0 (ts_A g)) 13 [(0, .ref (ts_ad g (b + 11))), (3, .long y3), (5, .long y5), (7, ts_v y7)] [] M := by
    refine ts_lpr3 (V := fun (y3 : Int64) (y5 : Int64) (y7 : Int) (M : ts_M) => ts_V p l e (ts_rm 1 0 0) s m args below meth c g 10 0 0 (MQ below (ts_Q g (ts_Rl Q)) args s 0 0 (ts_A g)) 13 [(0, .ref (ts_ad g (b + 11))), (3, .long y3), (5, .long y5), (7, ts_v y7)] [] M) ?_
    intro k13 hk13 y3 y5 y7 M
    unfold wX1_walkFrom_L13
    refine ts_iload C dX1_walkFrom_13 3 rfl ?_
    refine ts_bipush C dX1_walkFrom_15 64 tb_64 ?_
    refine ts_cmp_ge C rfl tw_64 66 dX1_walkFrom_17 rfl ?_ ?_
    · exact ts_sub [1] rfl (H66 _ _)
    · refine ts_lload C dX1_walkFrom_20 2 rfl ?_
      refine ts_lconst C dX1_walkFrom_22 0 rfl ?_
      refine ts_lcmp C dX1_walkFrom_23 ?_
      refine ts_lif_eq C 66 dX1_walkFrom_24 rfl ?_ ?_
      · exact ts_sub [1] rfl (H66 _ _)
      · refine ts_lload C dX1_walkFrom_27 2 rfl ?_
        refine ts_callSl C [.long y5] (mX1_firstOf hl) kX1_firstOf q_545 rfl rfl (Nat.le_of_ble_eq_true rfl) ⟨Nat.le_of_ble_eq_true rfl, Nat.le_of_ble_eq_true rfl⟩ ⟨Nat.le_of_ble_eq_true rfl, Nat.le_of_ble_eq_true rfl⟩ dX1_walkFrom_29 (fun r5 M4 => ?_)
        refine ts_lstore C dX1_walkFrom_32 (by decide) (lv' := fun x6 => [(8, .long x6), (0, .ref (ts_ad g (b + 11))), (3, .long y3), (5, .long y5), (7, ts_v y7)]) (fun _ => rfl) (fun x6 => ?_)
        refine ts_lload_n C dX1_walkFrom_34 rfl 2 rfl ?_
        refine ts_lload C dX1_walkFrom_35 0 rfl ?_
        refine ts_lor C dX1_walkFrom_37 ?_
        refine ts_lstore_n C dX1_walkFrom_38 rfl (by decide) (lv' := fun x7 => [(3, .long x7), (8, .long x6), (0, .ref (ts_ad g (b + 11))), (5, .long y5), (7, ts_v y7)]) (fun _ => rfl) (fun x7 => ?_)
        refine ts_lload C dX1_walkFrom_39 3 rfl ?_
        refine ts_lload C dX1_walkFrom_41 1 rfl ?_
        refine ts_callSl C [.long x6] (mX1_neighbours hl) kX1_neighbours q_552 rfl rfl (Nat.le_of_ble_eq_true rfl) ⟨Nat.le_of_ble_eq_true rfl, Nat.le_of_ble_eq_true rfl⟩ ⟨Nat.le_of_ble_eq_true rfl, Nat.le_of_ble_eq_true rfl⟩ dX1_walkFrom_43 (fun r9 M8 => ?_)
        refine ts_lor C dX1_walkFrom_46 ?_
        refine ts_aload_n C dX1_walkFrom_47 rfl 2 rfl ?_
        refine tgX1_0 hb C q_277 dX1_walkFrom_48 ?_
        refine ts_land C dX1_walkFrom_51 ?_
        refine ts_lload_n C dX1_walkFrom_52 rfl 0 rfl ?_
        refine ts_ldc2 C (-1) dX1_walkFrom_53 q_557 ?_
        refine ts_lxor C dX1_walkFrom_56 ?_
        refine ts_land C dX1_walkFrom_57 ?_
        refine ts_lstore C dX1_walkFrom_58 (by decide) (lv' := fun x10 => [(5, .long x10), (3, .long x7), (8, .long x6), (0, .ref (ts_ad g (b + 11))), (7, ts_v y7)]) (fun _ => rfl) (fun x10 => ?_)
        refine ts_iinc C dX1_walkFrom_60 4 rfl (by decide) (lv' := fun x11 => [(7, ts_v x11), (5, .long x10), (3, .long x7), (8, .long x6), (0, .ref (ts_ad g (b + 11)))]) (fun _ => rfl) (fun x11 => ?_)
        refine ts_goto C 13 dX1_walkFrom_63 rfl ?_
        exact ts_sub [4, 2, 1, 0] rfl (hk13 _ _ _ _)
  revert h0
  unfold wX1_walkFrom
  have hl0 : lv_args 0 [.ref (ts_ad g (b + 11)), .long p1] = [(0, .ref (ts_ad g (b + 11))), (1, .long p1)] := rfl
  rw [hl0]
  refine ts_lconst C dX1_walkFrom_0 0 rfl ?_
  refine ts_lstore_n C dX1_walkFrom_1 rfl (by decide) (lv' := fun x1 => [(3, .long x1), (0, .ref (ts_ad g (b + 11))), (1, .long p1)]) (fun _ => rfl) (fun x1 => ?_)
  refine ts_aload_n C dX1_walkFrom_2 rfl 1 rfl ?_
  refine tgX1_0 hb C q_277 dX1_walkFrom_3 ?_
  refine ts_lload_n C dX1_walkFrom_6 rfl 2 rfl ?_
  refine ts_land C dX1_walkFrom_7 ?_
  refine ts_lstore C dX1_walkFrom_8 (by decide) (lv' := fun x2 => [(5, .long x2), (3, .long x1), (0, .ref (ts_ad g (b + 11))), (1, .long p1)]) (fun _ => rfl) (fun x2 => ?_)
  refine ts_iconst C dX1_walkFrom_10 0 rfl ?_
  refine ts_istore C dX1_walkFrom_11 (by decide) (lv' := fun x3 => [(7, ts_v x3), (5, .long x2), (3, .long x1), (0, .ref (ts_ad g (b + 11))), (1, .long p1)]) (fun _ => rfl) (fun x3 => ?_)
  rintro ⟨n, hn⟩
  exact ts_sub [3, 2, 1, 0] rfl (H13 n _ _ _ _) hn
def wX1_countPuddles_B47 (b : Nat)  (Q : Int → ts_M → Prop)  (y1 : Int) (M : ts_M) : Prop :=
  Q y1 M
def wX1_countPuddles_L10 (b : Nat)  (Q : Int → ts_M → Prop) (k10 : Int → Int64 → Int → ts_M → Prop) (y1 : Int) (y2 : Int64) (y4 : Int) (M : ts_M) : Prop :=
  ((64 ≤ ts_w y4 → wX1_countPuddles_B47 b Q y1 M) ∧ (¬ (64 ≤ ts_w y4) → ((y2 = 0 → wX1_countPuddles_B47 b Q y1 M) ∧ (¬ (y2 = 0) → (wX1_firstOf y2 (fun r5 M4 => (wX1_walkFrom b r5 (fun r7 M6 => (∀ x8 : Int64, x8 = y2 &&& (r7 ^^^ (-1)) → (∀ x9 : Int, x9 = y1 + 1 → (∀ x10 : Int, x10 = y4 + 1 → k10 x9 x8 x10 M6)))) M4)) M)))))
def wX1_countPuddles (b : Nat) (Q : Int → ts_M → Prop) (M : ts_M) : Prop :=
  (∀ x1 : Int, x1 = 0 → (∀ x2 : Int64, x2 = M.2.1 (b + 11) 0 → (∀ x3 : Int, x3 = 0 → ∃ n, ts_lp3 (wX1_countPuddles_L10 b Q) n x1 x2 x3 M)))
set_option maxRecDepth 100000 in
set_option maxHeartbeats 4000000 in
theorem mX1_countPuddles {l : Launch} {g : ts_W} (hl : l.stackTraces = false) {b : Nat} (hb : ts_isS b) {Q : Int → ts_M → Prop} {M : ts_M} : wX1_countPuddles b Q M → ts_Con l g yX1_countPuddles cX1_countPuddles 5 (some .int) 2 0 0 [.ref (ts_ad g (b + 11))] M (ts_Ri Q) := by
  intro h0
  refine ts_Con.of hl (by decide) (Nat.le_of_ble_eq_true rfl) ?_
  intro p e s m args below meth c C
  have H47 : ∀ (y1 : Int) (M : ts_M), wX1_countPuddles_B47 b  Q y1 M → ts_V p l e (ts_rm 2 0 0) s m args below meth c g 5 0 0 (MQ below (ts_Q g (ts_Ri Q)) args s 0 0 (ts_A g)) 47 [(1, ts_v y1)] [] M := by
    intro  y1 M
    unfold wX1_countPuddles_B47
    refine ts_iload_n C dX1_countPuddles_47 rfl 0 rfl ?_
    exact ts_ireti C (Nat.zero_le _) (Nat.zero_le _) dX1_countPuddles_48
  have H10 : ∀ (n : Nat) (y1 : Int) (y2 : Int64) (y4 : Int) (M : ts_M), ts_lp3 (wX1_countPuddles_L10 b  Q) n y1 y2 y4 M → ts_V p l e (ts_rm 2 0 0) s m args below meth c g 5 0 0 (MQ below (ts_Q g (ts_Ri Q)) args s 0 0 (ts_A g)) 10 [(0, .ref (ts_ad g (b + 11))), (1, ts_v y1), (2, .long y2), (4, ts_v y4)] [] M := by
    refine ts_lpr3 (V := fun (y1 : Int) (y2 : Int64) (y4 : Int) (M : ts_M) => ts_V p l e (ts_rm 2 0 0) s m args below meth c g 5 0 0 (MQ below (ts_Q g (ts_Ri Q)) args s 0 0 (ts_A g)) 10 [(0, .ref (ts_ad g (b + 11))), (1, ts_v y1), (2, .long y2), (4, ts_v y4)] [] M) ?_
    intro k10 hk10 y1 y2 y4 M
    unfold wX1_countPuddles_L10
    refine ts_iload C dX1_countPuddles_10 3 rfl ?_
    refine ts_bipush C dX1_countPuddles_12 64 tb_64 ?_
    refine ts_cmp_ge C rfl tw_64 47 dX1_countPuddles_14 rfl ?_ ?_
    · exact ts_sub [1] rfl (H47 _ _)
    · refine ts_lload_n C dX1_countPuddles_17 rfl 2 rfl ?_
      refine ts_lconst C dX1_countPuddles_18 0 rfl ?_
      refine ts_lcmp C dX1_countPuddles_19 ?_
      refine ts_lif_eq C 47 dX1_countPuddles_20 rfl ?_ ?_
      · exact ts_sub [1] rfl (H47 _ _)
      · refine ts_lload_n C dX1_countPuddles_23 rfl 2 rfl ?_
        refine ts_aload_n C dX1_countPuddles_24 rfl 0 rfl ?_
        refine ts_lload_n C dX1_countPuddles_25 rfl 2 rfl ?_
        refine ts_callSl C [.long y2] (mX1_firstOf hl) kX1_firstOf q_545 rfl rfl (Nat.le_of_ble_eq_true rfl) ⟨Nat.le_of_ble_eq_true rfl, Nat.le_of_ble_eq_true rfl⟩ ⟨Nat.le_of_ble_eq_true rfl, Nat.le_of_ble_eq_true rfl⟩ dX1_countPuddles_26 (fun r5 M4 => ?_)
        refine ts_callVl C [.long r5] (mX1_walkFrom hl hb) kX1_walkFrom q_548 (ts_lt hb 11 (by decide)) (shX1 hb) rfl rfl rfl (Nat.le_of_ble_eq_true rfl) ⟨Nat.le_of_ble_eq_true rfl, Nat.le_of_ble_eq_true rfl⟩ ⟨Nat.le_of_ble_eq_true rfl, Nat.le_of_ble_eq_true rfl⟩ dX1_countPuddles_29 (fun r7 M6 => ?_)
        refine ts_ldc2 C (-1) dX1_countPuddles_32 q_557 ?_
        refine ts_lxor C dX1_countPuddles_35 ?_
        refine ts_land C dX1_countPuddles_36 ?_
        refine ts_lstore_n C dX1_countPuddles_37 rfl (by decide) (lv' := fun x8 => [(2, .long x8), (0, .ref (ts_ad g (b + 11))), (1, ts_v y1), (4, ts_v y4)]) (fun _ => rfl) (fun x8 => ?_)
        refine ts_iinc C dX1_countPuddles_38 2 rfl (by decide) (lv' := fun x9 => [(1, ts_v x9), (2, .long x8), (0, .ref (ts_ad g (b + 11))), (4, ts_v y4)]) (fun _ => rfl) (fun x9 => ?_)
        refine ts_iinc C dX1_countPuddles_41 3 rfl (by decide) (lv' := fun x10 => [(4, ts_v x10), (1, ts_v x9), (2, .long x8), (0, .ref (ts_ad g (b + 11)))]) (fun _ => rfl) (fun x10 => ?_)
        refine ts_goto C 10 dX1_countPuddles_44 rfl ?_
        exact ts_sub [3, 1, 2, 0] rfl (hk10 _ _ _ _)
  revert h0
  unfold wX1_countPuddles
  have hl0 : lv_args 0 [.ref (ts_ad g (b + 11))] = [(0, .ref (ts_ad g (b + 11)))] := rfl
  rw [hl0]
  refine ts_iconst C dX1_countPuddles_0 0 rfl ?_
  refine ts_istore_n C dX1_countPuddles_1 rfl (by decide) (lv' := fun x1 => [(1, ts_v x1), (0, .ref (ts_ad g (b + 11)))]) (fun _ => rfl) (fun x1 => ?_)
  refine ts_aload_n C dX1_countPuddles_2 rfl 1 rfl ?_
  refine tgX1_0 hb C q_277 dX1_countPuddles_3 ?_
  refine ts_lstore_n C dX1_countPuddles_6 rfl (by decide) (lv' := fun x2 => [(2, .long x2), (1, ts_v x1), (0, .ref (ts_ad g (b + 11)))]) (fun _ => rfl) (fun x2 => ?_)
  refine ts_iconst C dX1_countPuddles_7 0 rfl ?_
  refine ts_istore C dX1_countPuddles_8 (by decide) (lv' := fun x3 => [(4, ts_v x3), (2, .long x2), (1, ts_v x1), (0, .ref (ts_ad g (b + 11)))]) (fun _ => rfl) (fun x3 => ?_)
  rintro ⟨n, hn⟩
  exact ts_sub [3, 2, 1, 0] rfl (H10 n _ _ _ _) hn
def wX1_joinCell_B94 (b : Nat)  (Q : ts_M → Prop)  (y7 : Int) (M : ts_M) : Prop :=
  (∀ M7, M7 = ts_si M (b + 11) 2 y7 → Q M7)
def wX1_joinCell_B69 (b : Nat) (k14 : Int64 → Int64 → Int → Int → ts_M → Prop) (Q : ts_M → Prop)  (y3 : Int64) (y5 : Int64) (y7 : Int) (y8 : Int) (M : ts_M) : Prop :=
  (∀ x12 : Int, x12 = y8 + 1 → k14 y3 y5 y7 x12 M)
def wX1_joinCell_L14 (b : Nat)  (Q : ts_M → Prop) (k14 : Int64 → Int64 → Int → Int → ts_M → Prop) (y3 : Int64) (y5 : Int64) (y7 : Int) (y8 : Int) (M : ts_M) : Prop :=
  ((ts_w (M.1 (b + 11) 2) ≤ ts_w y8 → ((64 ≤ ts_w y7 → wX1_joinCell_B94 b Q y7 M) ∧ (¬ (64 ≤ ts_w y7) → ((0 ≤ ts_w y7 ∧ ts_w y7 < ((64 : Nat) : Int)) ∧ ∀ M8, M8 = ts_sl M (b + 12) (ts_w y7) y5 → (∀ x9 : Int, x9 = y7 + 1 → wX1_joinCell_B94 b Q x9 M8))))) ∧ (¬ (ts_w (M.1 (b + 11) 2) ≤ ts_w y8) → ((0 ≤ ts_w y8 ∧ ts_w y8 < ((64 : Nat) : Int)) ∧ (((M.2.1 (b + 12) (ts_w y8)) &&& y3 = 0 → ((0 ≤ ts_w y8 ∧ ts_w y8 < ((64 : Nat) : Int)) ∧ ((0 ≤ ts_w y7 ∧ ts_w y7 < ((64 : Nat) : Int)) ∧ ∀ M10, M10 = ts_sl M (b + 12) (ts_w y7) (M.2.1 (b + 12) (ts_w y8)) → (∀ x11 : Int, x11 = y7 + 1 → wX1_joinCell_B69 b k14 Q y3 y5 x11 y8 M10)))) ∧ (¬ ((M.2.1 (b + 12) (ts_w y8)) &&& y3 = 0) → ((0 ≤ ts_w y8 ∧ ts_w y8 < ((64 : Nat) : Int)) ∧ (∀ x13 : Int64, x13 = y5 ||| (M.2.1 (b + 12) (ts_w y8)) → wX1_joinCell_B69 b k14 Q y3 x13 y7 y8 M)))))))
def wX1_joinCell (b : Nat) (p1 : Int64) (Q : ts_M → Prop) (M : ts_M) : Prop :=
  (wX1_neighbours p1 (fun r2 M1 => (∀ x3 : Int64, x3 = r2 → (∀ x4 : Int64, x4 = p1 → (∀ x5 : Int, x5 = 0 → (∀ x6 : Int, x6 = 0 → ∃ n, ts_lp4 (wX1_joinCell_L14 b Q) n x3 x4 x5 x6 M1))))) M)
set_option maxRecDepth 100000 in
set_option maxHeartbeats 4000000 in
theorem mX1_joinCell {l : Launch} {g : ts_W} (hl : l.stackTraces = false) {b : Nat} (hb : ts_isS b) {p1 : Int64} {Q : ts_M → Prop} {M : ts_M} : wX1_joinCell b p1 Q M → ts_Con l g yX1_joinCell cX1_joinCell 9 none 1 0 0 [.ref (ts_ad g (b + 11)), .long p1] M (ts_Rv Q) := by
  intro h0
  refine ts_Con.of hl (by decide) (Nat.le_of_ble_eq_true rfl) ?_
  intro p e s m args below meth c C
  have H94 : ∀ (y7 : Int) (M : ts_M), wX1_joinCell_B94 b  Q y7 M → ts_V p l e (ts_rm 1 0 0) s m args below meth c g 9 0 0 (MQ below (ts_Q g (ts_Rv Q)) args s 0 0 (ts_A g)) 94 [(0, .ref (ts_ad g (b + 11))), (7, ts_v y7)] [] M := by
    intro  y7 M
    unfold wX1_joinCell_B94
    refine ts_aload_n C dX1_joinCell_94 rfl 0 rfl ?_
    refine ts_iload C dX1_joinCell_95 1 rfl ?_
    refine tpX1_2 hb C q_280 dX1_joinCell_97 (fun M7 => ?_)
    exact ts_vreti C (Nat.zero_le _) (Nat.zero_le _) dX1_joinCell_100
  have H69 : ∀ (k14 : Int64 → Int64 → Int → Int → ts_M → Prop) (hk14 : ∀ (y3 : Int64) (y5 : Int64) (y7 : Int) (y8 : Int) (M : ts_M), k14 y3 y5 y7 y8 M → ts_V p l e (ts_rm 1 0 0) s m args below meth c g 9 0 0 (MQ below (ts_Q g (ts_Rv Q)) args s 0 0 (ts_A g)) 14 [(0, .ref (ts_ad g (b + 11))), (3, .long y3), (5, .long y5), (7, ts_v y7), (8, ts_v y8)] [] M) (y3 : Int64) (y5 : Int64) (y7 : Int) (y8 : Int) (M : ts_M), wX1_joinCell_B69 b k14 Q y3 y5 y7 y8 M → ts_V p l e (ts_rm 1 0 0) s m args below meth c g 9 0 0 (MQ below (ts_Q g (ts_Rv Q)) args s 0 0 (ts_A g)) 69 [(0, .ref (ts_ad g (b + 11))), (3, .long y3), (5, .long y5), (7, ts_v y7), (8, ts_v y8)] [] M := by
    intro k14 hk14 y3 y5 y7 y8 M
    unfold wX1_joinCell_B69
    refine ts_iinc C dX1_joinCell_69 4 rfl (by decide) (lv' := fun x12 => [(8, ts_v x12), (0, .ref (ts_ad g (b + 11))), (3, .long y3), (5, .long y5), (7, ts_v y7)]) (fun _ => rfl) (fun x12 => ?_)
    refine ts_goto C 14 dX1_joinCell_72 rfl ?_
    exact ts_sub [1, 2, 3, 4, 0] rfl (hk14 _ _ _ _ _)
  have H14 : ∀ (n : Nat) (y3 : Int64) (y5 : Int64) (y7 : Int) (y8 : Int) (M : ts_M), ts_lp4 (wX1_joinCell_L14 b  Q) n y3 y5 y7 y8 M → ts_V p l e (ts_rm 1 0 0) s m args below meth c g 9 0 0 (MQ below (ts_Q g (ts_Rv Q)) args s 0 0 (ts_A g)) 14 [(0, .ref (ts_ad g (b + 11))), (3, .long y3), (5, .long y5), (7, ts_v y7), (8, ts_v y8)] [] M := by
    refine ts_lpr4 (V := fun (y3 : Int64) (y5 : Int64) (y7 : Int) (y8 : Int) (M : ts_M) => ts_V p l e (ts_rm 1 0 0) s m args below meth c g 9 0 0 (MQ below (ts_Q g (ts_Rv Q)) args s 0 0 (ts_A g)) 14 [(0, .ref (ts_ad g (b + 11))), (3, .long y3), (5, .long y5), (7, ts_v y7), (8, ts_v y8)] [] M) ?_
    intro k14 hk14 y3 y5 y7 y8 M
    unfold wX1_joinCell_L14
    refine ts_iload C dX1_joinCell_14 4 rfl ?_
    refine ts_aload_n C dX1_joinCell_16 rfl 0 rfl ?_
    refine tgX1_2 hb C q_280 dX1_joinCell_17 ?_
    refine ts_cmp_ge C rfl rfl 75 dX1_joinCell_20 rfl ?_ ?_
    · refine ts_iload C dX1_joinCell_75 3 rfl ?_
      refine ts_bipush C dX1_joinCell_77 64 tb_64 ?_
      refine ts_cmp_ge C rfl tw_64 94 dX1_joinCell_79 rfl ?_ ?_
      · exact ts_sub [0, 3] rfl (H94 _ _)
      · refine ts_aload_n C dX1_joinCell_82 rfl 0 rfl ?_
        refine tgX1_1 hb C q_279 dX1_joinCell_83 ?_
        refine ts_iload C dX1_joinCell_86 3 rfl ?_
        refine ts_lload C dX1_joinCell_88 2 rfl ?_
        refine ts_last C (ts_lt hb 12 (by decide)) (shS12 hb) dX1_joinCell_90 (fun M8 => ?_)
        refine ts_iinc C dX1_joinCell_91 3 rfl (by decide) (lv' := fun x9 => [(7, ts_v x9), (0, .ref (ts_ad g (b + 11))), (3, .long y3), (5, .long y5), (8, ts_v y8)]) (fun _ => rfl) (fun x9 => ?_)
        exact ts_sub [1, 0] rfl (H94 _ _)
    · refine ts_aload_n C dX1_joinCell_23 rfl 0 rfl ?_
      refine tgX1_1 hb C q_279 dX1_joinCell_24 ?_
      refine ts_iload C dX1_joinCell_27 4 rfl ?_
      refine ts_lald C (ts_lt hb 12 (by decide)) (shS12 hb) dX1_joinCell_29 ?_
      refine ts_lload_n C dX1_joinCell_30 rfl 1 rfl ?_
      refine ts_land C dX1_joinCell_31 ?_
      refine ts_lconst C dX1_joinCell_32 0 rfl ?_
      refine ts_lcmp C dX1_joinCell_33 ?_
      refine ts_lif_eq C 52 dX1_joinCell_34 rfl ?_ ?_
      · refine ts_aload_n C dX1_joinCell_52 rfl 0 rfl ?_
        refine tgX1_1 hb C q_279 dX1_joinCell_53 ?_
        refine ts_iload C dX1_joinCell_56 3 rfl ?_
        refine ts_aload_n C dX1_joinCell_58 rfl 0 rfl ?_
        refine tgX1_1 hb C q_279 dX1_joinCell_59 ?_
        refine ts_iload C dX1_joinCell_62 4 rfl ?_
        refine ts_lald C (ts_lt hb 12 (by decide)) (shS12 hb) dX1_joinCell_64 ?_
        refine ts_last C (ts_lt hb 12 (by decide)) (shS12 hb) dX1_joinCell_65 (fun M10 => ?_)
        refine ts_iinc C dX1_joinCell_66 3 rfl (by decide) (lv' := fun x11 => [(7, ts_v x11), (0, .ref (ts_ad g (b + 11))), (3, .long y3), (5, .long y5), (8, ts_v y8)]) (fun _ => rfl) (fun x11 => ?_)
        exact ts_sub [1, 2, 3, 0, 4] rfl (H69 k14 hk14 _ _ _ _ _)
      · refine ts_lload C dX1_joinCell_37 2 rfl ?_
        refine ts_aload_n C dX1_joinCell_39 rfl 0 rfl ?_
        refine tgX1_1 hb C q_279 dX1_joinCell_40 ?_
        refine ts_iload C dX1_joinCell_43 4 rfl ?_
        refine ts_lald C (ts_lt hb 12 (by decide)) (shS12 hb) dX1_joinCell_45 ?_
        refine ts_lor C dX1_joinCell_46 ?_
        refine ts_lstore C dX1_joinCell_47 (by decide) (lv' := fun x13 => [(5, .long x13), (0, .ref (ts_ad g (b + 11))), (3, .long y3), (7, ts_v y7), (8, ts_v y8)]) (fun _ => rfl) (fun x13 => ?_)
        refine ts_goto C 69 dX1_joinCell_49 rfl ?_
        exact ts_sub [1, 2, 0, 3, 4] rfl (H69 k14 hk14 _ _ _ _ _)
  revert h0
  unfold wX1_joinCell
  have hl0 : lv_args 0 [.ref (ts_ad g (b + 11)), .long p1] = [(0, .ref (ts_ad g (b + 11))), (1, .long p1)] := rfl
  rw [hl0]
  refine ts_lload_n C dX1_joinCell_0 rfl 1 rfl ?_
  refine ts_callSl C [.long p1] (mX1_neighbours hl) kX1_neighbours q_552 rfl rfl (Nat.le_of_ble_eq_true rfl) ⟨Nat.le_of_ble_eq_true rfl, Nat.le_of_ble_eq_true rfl⟩ ⟨Nat.le_of_ble_eq_true rfl, Nat.le_of_ble_eq_true rfl⟩ dX1_joinCell_1 (fun r2 M1 => ?_)
  refine ts_lstore_n C dX1_joinCell_4 rfl (by decide) (lv' := fun x3 => [(3, .long x3), (0, .ref (ts_ad g (b + 11))), (1, .long p1)]) (fun _ => rfl) (fun x3 => ?_)
  refine ts_lload_n C dX1_joinCell_5 rfl 2 rfl ?_
  refine ts_lstore C dX1_joinCell_6 (by decide) (lv' := fun x4 => [(5, .long x4), (3, .long x3), (0, .ref (ts_ad g (b + 11))), (1, .long p1)]) (fun _ => rfl) (fun x4 => ?_)
  refine ts_iconst C dX1_joinCell_8 0 rfl ?_
  refine ts_istore C dX1_joinCell_9 (by decide) (lv' := fun x5 => [(7, ts_v x5), (5, .long x4), (3, .long x3), (0, .ref (ts_ad g (b + 11))), (1, .long p1)]) (fun _ => rfl) (fun x5 => ?_)
  refine ts_iconst C dX1_joinCell_11 0 rfl ?_
  refine ts_istore C dX1_joinCell_12 (by decide) (lv' := fun x6 => [(8, ts_v x6), (7, ts_v x5), (5, .long x4), (3, .long x3), (0, .ref (ts_ad g (b + 11))), (1, .long p1)]) (fun _ => rfl) (fun x6 => ?_)
  rintro ⟨n, hn⟩
  exact ts_sub [4, 3, 2, 1, 0] rfl (H14 n _ _ _ _ _) hn
def wX1_groupOf_L2 (b : Nat)  (Q : Int64 → ts_M → Prop) (k2 : Int64 → Int → ts_M → Prop) (y1 : Int64) (y3 : Int) (M : ts_M) : Prop :=
  ((ts_w (M.1 (b + 11) 2) ≤ ts_w y3 → Q 0 M) ∧ (¬ (ts_w (M.1 (b + 11) 2) ≤ ts_w y3) → ((0 ≤ ts_w y3 ∧ ts_w y3 < ((64 : Nat) : Int)) ∧ (((M.2.1 (b + 12) (ts_w y3)) &&& y1 = 0 → (∀ x2 : Int, x2 = y3 + 1 → k2 y1 x2 M)) ∧ (¬ ((M.2.1 (b + 12) (ts_w y3)) &&& y1 = 0) → ((0 ≤ ts_w y3 ∧ ts_w y3 < ((64 : Nat) : Int)) ∧ Q (M.2.1 (b + 12) (ts_w y3)) M))))))
def wX1_groupOf (b : Nat) (p1 : Int64) (Q : Int64 → ts_M → Prop) (M : ts_M) : Prop :=
  (∀ x1 : Int, x1 = 0 → ∃ n, ts_lp2 (wX1_groupOf_L2 b Q) n p1 x1 M)
set_option maxRecDepth 100000 in
set_option maxHeartbeats 4000000 in
theorem mX1_groupOf {l : Launch} {g : ts_W} (hl : l.stackTraces = false) {b : Nat} (hb : ts_isS b) {p1 : Int64} {Q : Int64 → ts_M → Prop} {M : ts_M} : wX1_groupOf b p1 Q M → ts_Con l g yX1_groupOf cX1_groupOf 4 (some .long) 0 0 0 [.ref (ts_ad g (b + 11)), .long p1] M (ts_Rl Q) := by
  intro h0
  refine ts_Con.of hl (by decide) (Nat.le_of_ble_eq_true rfl) ?_
  intro p e s m args below meth c C
  have H2 : ∀ (n : Nat) (y1 : Int64) (y3 : Int) (M : ts_M), ts_lp2 (wX1_groupOf_L2 b  Q) n y1 y3 M → ts_V p l e (ts_rm 0 0 0) s m args below meth c g 4 0 0 (MQ below (ts_Q g (ts_Rl Q)) args s 0 0 (ts_A g)) 2 [(0, .ref (ts_ad g (b + 11))), (1, .long y1), (3, ts_v y3)] [] M := by
    refine ts_lpr2 (V := fun (y1 : Int64) (y3 : Int) (M : ts_M) => ts_V p l e (ts_rm 0 0 0) s m args below meth c g 4 0 0 (MQ below (ts_Q g (ts_Rl Q)) args s 0 0 (ts_A g)) 2 [(0, .ref (ts_ad g (b + 11))), (1, .long y1), (3, ts_v y3)] [] M) ?_
    intro k2 hk2 y1 y3 M
    unfold wX1_groupOf_L2
    refine ts_iload_n C dX1_groupOf_2 rfl 2 rfl ?_
    refine ts_aload_n C dX1_groupOf_3 rfl 0 rfl ?_
    refine tgX1_2 hb C q_280 dX1_groupOf_4 ?_
    refine ts_cmp_ge C rfl rfl 36 dX1_groupOf_7 rfl ?_ ?_
    · refine ts_lconst C dX1_groupOf_36 0 rfl ?_
      exact ts_lreti C (Nat.zero_le _) (Nat.zero_le _) dX1_groupOf_37
    · refine ts_aload_n C dX1_groupOf_10 rfl 0 rfl ?_
      refine tgX1_1 hb C q_279 dX1_groupOf_11 ?_
      refine ts_iload_n C dX1_groupOf_14 rfl 2 rfl ?_
      refine ts_lald C (ts_lt hb 12 (by decide)) (shS12 hb) dX1_groupOf_15 ?_
      refine ts_lload_n C dX1_groupOf_16 rfl 1 rfl ?_
      refine ts_land C dX1_groupOf_17 ?_
      refine ts_lconst C dX1_groupOf_18 0 rfl ?_
      refine ts_lcmp C dX1_groupOf_19 ?_
      refine ts_lif_eq C 30 dX1_groupOf_20 rfl ?_ ?_
      · refine ts_iinc C dX1_groupOf_30 2 rfl (by decide) (lv' := fun x2 => [(3, ts_v x2), (0, .ref (ts_ad g (b + 11))), (1, .long y1)]) (fun _ => rfl) (fun x2 => ?_)
        refine ts_goto C 2 dX1_groupOf_33 rfl ?_
        exact ts_sub [1, 2, 0] rfl (hk2 _ _ _)
      · refine ts_aload_n C dX1_groupOf_23 rfl 0 rfl ?_
        refine tgX1_1 hb C q_279 dX1_groupOf_24 ?_
        refine ts_iload_n C dX1_groupOf_27 rfl 2 rfl ?_
        refine ts_lald C (ts_lt hb 12 (by decide)) (shS12 hb) dX1_groupOf_28 ?_
        exact ts_lreti C (Nat.zero_le _) (Nat.zero_le _) dX1_groupOf_29
  revert h0
  unfold wX1_groupOf
  have hl0 : lv_args 0 [.ref (ts_ad g (b + 11)), .long p1] = [(0, .ref (ts_ad g (b + 11))), (1, .long p1)] := rfl
  rw [hl0]
  refine ts_iconst C dX1_groupOf_0 0 rfl ?_
  refine ts_istore_n C dX1_groupOf_1 rfl (by decide) (lv' := fun x1 => [(3, ts_v x1), (0, .ref (ts_ad g (b + 11))), (1, .long p1)]) (fun _ => rfl) (fun x1 => ?_)
  rintro ⟨n, hn⟩
  exact ts_sub [1, 2, 0] rfl (H2 n _ _ _) hn
def wX3_forgetAll (Q : ts_M → Prop) (M : ts_M) : Prop :=
  (∀ M1, M1 = ts_si M 158 2 0 → Q M1)
set_option maxRecDepth 100000 in
set_option maxHeartbeats 4000000 in
theorem mX3_forgetAll {l : Launch} {g : ts_W} (hl : l.stackTraces = false) {Q : ts_M → Prop} {M : ts_M} : wX3_forgetAll Q M → ts_Con l g yX3_forgetAll cX3_forgetAll 1 none 0 0 0 [.ref (ts_ad g 158)] M (ts_Rv Q) := by
  intro h0
  refine ts_Con.of hl (by decide) (Nat.le_of_ble_eq_true rfl) ?_
  intro p e s m args below meth c C
  revert h0
  unfold wX3_forgetAll
  have hl0 : lv_args 0 [.ref (ts_ad g 158)] = [(0, .ref (ts_ad g 158))] := rfl
  rw [hl0]
  refine ts_aload_n C dX3_forgetAll_0 rfl 0 rfl ?_
  refine ts_iconst C dX3_forgetAll_1 0 rfl ?_
  refine tpX3_2 C q_338 dX3_forgetAll_2 (fun M1 => ?_)
  exact ts_vreti C (Nat.zero_le _) (Nat.zero_le _) dX3_forgetAll_5
def wX4_placeOf_L2 (b : Nat)  (Q : Int → ts_M → Prop) (k2 : Int → Int → ts_M → Prop) (y1 : Int) (y2 : Int) (M : ts_M) : Prop :=
  ((ts_w (M.1 (b + 6) 2) ≤ ts_w y2 → Q (-1) M) ∧ (¬ (ts_w (M.1 (b + 6) 2) ≤ ts_w y2) → ((0 ≤ ts_w y2 ∧ ts_w y2 < ((6 : Nat) : Int)) ∧ ((¬ (ts_w (M.1 (b + 7) (ts_w y2)) = ts_w y1) → (∀ x2 : Int, x2 = y2 + 1 → k2 y1 x2 M)) ∧ (ts_w (M.1 (b + 7) (ts_w y2)) = ts_w y1 → Q y2 M)))))
def wX4_placeOf (b : Nat) (p1 : Int) (Q : Int → ts_M → Prop) (M : ts_M) : Prop :=
  (∀ x1 : Int, x1 = 0 → ∃ n, ts_lp2 (wX4_placeOf_L2 b Q) n p1 x1 M)
set_option maxRecDepth 100000 in
set_option maxHeartbeats 4000000 in
theorem mX4_placeOf {l : Launch} {g : ts_W} (hl : l.stackTraces = false) {b : Nat} (hb : ts_isS b) {p1 : Int} {Q : Int → ts_M → Prop} {M : ts_M} : wX4_placeOf b p1 Q M → ts_Con l g yX4_placeOf cX4_placeOf 3 (some .int) 0 0 0 [.ref (ts_ad g (b + 6)), ts_v p1] M (ts_Ri Q) := by
  intro h0
  refine ts_Con.of hl (by decide) (Nat.le_of_ble_eq_true rfl) ?_
  intro p e s m args below meth c C
  have H2 : ∀ (n : Nat) (y1 : Int) (y2 : Int) (M : ts_M), ts_lp2 (wX4_placeOf_L2 b  Q) n y1 y2 M → ts_V p l e (ts_rm 0 0 0) s m args below meth c g 3 0 0 (MQ below (ts_Q g (ts_Ri Q)) args s 0 0 (ts_A g)) 2 [(0, .ref (ts_ad g (b + 6))), (1, ts_v y1), (2, ts_v y2)] [] M := by
    refine ts_lpr2 (V := fun (y1 : Int) (y2 : Int) (M : ts_M) => ts_V p l e (ts_rm 0 0 0) s m args below meth c g 3 0 0 (MQ below (ts_Q g (ts_Ri Q)) args s 0 0 (ts_A g)) 2 [(0, .ref (ts_ad g (b + 6))), (1, ts_v y1), (2, ts_v y2)] [] M) ?_
    intro k2 hk2 y1 y2 M
    unfold wX4_placeOf_L2
    refine ts_iload_n C dX4_placeOf_2 rfl 2 rfl ?_
    refine ts_aload_n C dX4_placeOf_3 rfl 0 rfl ?_
    refine tgX4_2 hb C q_226 dX4_placeOf_4 ?_
    refine ts_cmp_ge C rfl rfl 28 dX4_placeOf_7 rfl ?_ ?_
    · refine ts_iconst C dX4_placeOf_28 (-1) rfl ?_
      exact ts_ireti C (Nat.zero_le _) (Nat.zero_le _) dX4_placeOf_29
    · refine ts_aload_n C dX4_placeOf_10 rfl 0 rfl ?_
      refine tgX4_0 hb C q_220 dX4_placeOf_11 ?_
      refine ts_iload_n C dX4_placeOf_14 rfl 2 rfl ?_
      refine ts_iald C (ts_lt hb 7 (by decide)) (shS7 hb) dX4_placeOf_15 ?_
      refine ts_iload_n C dX4_placeOf_16 rfl 1 rfl ?_
      refine ts_cmp_ne C rfl rfl 22 dX4_placeOf_17 rfl ?_ ?_
      · refine ts_iinc C dX4_placeOf_22 2 rfl (by decide) (lv' := fun x2 => [(2, ts_v x2), (0, .ref (ts_ad g (b + 6))), (1, ts_v y1)]) (fun _ => rfl) (fun x2 => ?_)
        refine ts_goto C 2 dX4_placeOf_25 rfl ?_
        exact ts_sub [1, 2, 0] rfl (hk2 _ _ _)
      · refine ts_iload_n C dX4_placeOf_20 rfl 2 rfl ?_
        exact ts_ireti C (Nat.zero_le _) (Nat.zero_le _) dX4_placeOf_21
  revert h0
  unfold wX4_placeOf
  have hl0 : lv_args 0 [.ref (ts_ad g (b + 6)), ts_v p1] = [(0, .ref (ts_ad g (b + 6))), (1, ts_v p1)] := rfl
  rw [hl0]
  refine ts_iconst C dX4_placeOf_0 0 rfl ?_
  refine ts_istore_n C dX4_placeOf_1 rfl (by decide) (lv' := fun x1 => [(2, ts_v x1), (0, .ref (ts_ad g (b + 6))), (1, ts_v p1)]) (fun _ => rfl) (fun x1 => ?_)
  rintro ⟨n, hn⟩
  exact ts_sub [1, 2, 0] rfl (H2 n _ _ _) hn
def wX4_positionOf_B21 (b : Nat)  (Q : Int → ts_M → Prop)  (z0 : Int) (M : ts_M) : Prop :=
  Q z0 M
def wX4_positionOf (b : Nat) (p1 : Int) (Q : Int → ts_M → Prop) (M : ts_M) : Prop :=
  (wX4_placeOf b p1 (fun r2 M1 => (∀ x3 : Int, x3 = r2 → ((¬ (ts_w x3 = (-1)) → ((0 ≤ ts_w x3 ∧ ts_w x3 < ((6 : Nat) : Int)) ∧ wX4_positionOf_B21 b Q (M1.1 (b + 8) (ts_w x3)) M1)) ∧ (ts_w x3 = (-1) → wX4_positionOf_B21 b Q 0 M1)))) M)
set_option maxRecDepth 100000 in
set_option maxHeartbeats 4000000 in
theorem mX4_positionOf {l : Launch} {g : ts_W} (hl : l.stackTraces = false) {b : Nat} (hb : ts_isS b) {p1 : Int} {Q : Int → ts_M → Prop} {M : ts_M} : wX4_positionOf b p1 Q M → ts_Con l g yX4_positionOf cX4_positionOf 3 (some .int) 1 0 0 [.ref (ts_ad g (b + 6)), ts_v p1] M (ts_Ri Q) := by
  intro h0
  refine ts_Con.of hl (by decide) (Nat.le_of_ble_eq_true rfl) ?_
  intro p e s m args below meth c C
  have H21 : ∀ (z0 : Int) (M : ts_M), wX4_positionOf_B21 b  Q z0 M → ts_V p l e (ts_rm 1 0 0) s m args below meth c g 3 0 0 (MQ below (ts_Q g (ts_Ri Q)) args s 0 0 (ts_A g)) 21 [] [ts_v z0] M := by
    intro  z0 M
    unfold wX4_positionOf_B21
    exact ts_ireti C (Nat.zero_le _) (Nat.zero_le _) dX4_positionOf_21
  revert h0
  unfold wX4_positionOf
  have hl0 : lv_args 0 [.ref (ts_ad g (b + 6)), ts_v p1] = [(0, .ref (ts_ad g (b + 6))), (1, ts_v p1)] := rfl
  rw [hl0]
  refine ts_aload_n C dX4_positionOf_0 rfl 0 rfl ?_
  refine ts_iload_n C dX4_positionOf_1 rfl 1 rfl ?_
  refine ts_callVi C [ts_v p1] (mX4_placeOf hl hb) kX4_placeOf q_1298 (ts_lt hb 6 (by decide)) (shX4 hb) rfl rfl rfl (Nat.le_of_ble_eq_true rfl) ⟨Nat.le_of_ble_eq_true rfl, Nat.le_of_ble_eq_true rfl⟩ ⟨Nat.le_of_ble_eq_true rfl, Nat.le_of_ble_eq_true rfl⟩ dX4_positionOf_2 (fun r2 M1 => ?_)
  refine ts_istore_n C dX4_positionOf_5 rfl (by decide) (lv' := fun x3 => [(2, ts_v x3), (0, .ref (ts_ad g (b + 6))), (1, ts_v p1)]) (fun _ => rfl) (fun x3 => ?_)
  refine ts_iload_n C dX4_positionOf_6 rfl 0 rfl ?_
  refine ts_iconst C dX4_positionOf_7 (-1) rfl ?_
  refine ts_cmp_ne C rfl tw_m1 15 dX4_positionOf_8 rfl ?_ ?_
  · refine ts_aload_n C dX4_positionOf_15 rfl 1 rfl ?_
    refine tgX4_1 hb C q_223 dX4_positionOf_16 ?_
    refine ts_iload_n C dX4_positionOf_19 rfl 0 rfl ?_
    refine ts_iald C (ts_lt hb 8 (by decide)) (shS8 hb) dX4_positionOf_20 ?_
    exact ts_sub [] rfl (H21 _ _)
  · refine ts_iconst C dX4_positionOf_11 0 rfl ?_
    refine ts_goto C 21 dX4_positionOf_12 rfl ?_
    exact ts_sub [] rfl (H21 _ _)
def wX4_setPosition_B18 (b : Nat)  (Q : ts_M → Prop)   (M : ts_M) : Prop :=
  Q M
def wX4_setPosition (b : Nat) (p1 : Int) (p2 : Int) (Q : ts_M → Prop) (M : ts_M) : Prop :=
  (wX4_placeOf b p1 (fun r2 M1 => (∀ x3 : Int, x3 = r2 → ((ts_w x3 = (-1) → wX4_setPosition_B18 b Q M1) ∧ (¬ (ts_w x3 = (-1)) → ((0 ≤ ts_w x3 ∧ ts_w x3 < ((6 : Nat) : Int)) ∧ ∀ M4, M4 = ts_si M1 (b + 8) (ts_w x3) p2 → wX4_setPosition_B18 b Q M4))))) M)
set_option maxRecDepth 100000 in
set_option maxHeartbeats 4000000 in
theorem mX4_setPosition {l : Launch} {g : ts_W} (hl : l.stackTraces = false) {b : Nat} (hb : ts_isS b) {p1 : Int} {p2 : Int} {Q : ts_M → Prop} {M : ts_M} : wX4_setPosition b p1 p2 Q M → ts_Con l g yX4_setPosition cX4_setPosition 4 none 1 0 0 [.ref (ts_ad g (b + 6)), ts_v p1, ts_v p2] M (ts_Rv Q) := by
  intro h0
  refine ts_Con.of hl (by decide) (Nat.le_of_ble_eq_true rfl) ?_
  intro p e s m args below meth c C
  have H18 : ∀  (M : ts_M), wX4_setPosition_B18 b  Q  M → ts_V p l e (ts_rm 1 0 0) s m args below meth c g 4 0 0 (MQ below (ts_Q g (ts_Rv Q)) args s 0 0 (ts_A g)) 18 [] [] M := by
    intro   M
    unfold wX4_setPosition_B18
    exact ts_vreti C (Nat.zero_le _) (Nat.zero_le _) dX4_setPosition_18
  revert h0
  unfold wX4_setPosition
  have hl0 : lv_args 0 [.ref (ts_ad g (b + 6)), ts_v p1, ts_v p2] = [(0, .ref (ts_ad g (b + 6))), (1, ts_v p1), (2, ts_v p2)] := rfl
  rw [hl0]
  refine ts_aload_n C dX4_setPosition_0 rfl 0 rfl ?_
  refine ts_iload_n C dX4_setPosition_1 rfl 1 rfl ?_
  refine ts_callVi C [ts_v p1] (mX4_placeOf hl hb) kX4_placeOf q_1298 (ts_lt hb 6 (by decide)) (shX4 hb) rfl rfl rfl (Nat.le_of_ble_eq_true rfl) ⟨Nat.le_of_ble_eq_true rfl, Nat.le_of_ble_eq_true rfl⟩ ⟨Nat.le_of_ble_eq_true rfl, Nat.le_of_ble_eq_true rfl⟩ dX4_setPosition_2 (fun r2 M1 => ?_)
  refine ts_istore_n C dX4_setPosition_5 rfl (by decide) (lv' := fun x3 => [(3, ts_v x3), (0, .ref (ts_ad g (b + 6))), (1, ts_v p1), (2, ts_v p2)]) (fun _ => rfl) (fun x3 => ?_)
  refine ts_iload_n C dX4_setPosition_6 rfl 0 rfl ?_
  refine ts_iconst C dX4_setPosition_7 (-1) rfl ?_
  refine ts_cmp_eq C rfl tw_m1 18 dX4_setPosition_8 rfl ?_ ?_
  · exact ts_sub [] rfl (H18 _)
  · refine ts_aload_n C dX4_setPosition_11 rfl 1 rfl ?_
    refine tgX4_1 hb C q_223 dX4_setPosition_12 ?_
    refine ts_iload_n C dX4_setPosition_15 rfl 0 rfl ?_
    refine ts_iload_n C dX4_setPosition_16 rfl 3 rfl ?_
    refine ts_iast C (ts_lt hb 8 (by decide)) (shS8 hb) dX4_setPosition_17 (fun M4 => ?_)
    exact ts_sub [] rfl (H18 _)
def wX4_append_B39 (b : Nat)  (Q : ts_M → Prop)   (M : ts_M) : Prop :=
  Q M
def wX4_append (b : Nat) (p1 : Int) (p2 : Int) (Q : ts_M → Prop) (M : ts_M) : Prop :=
  ((6 ≤ ts_w (M.1 (b + 6) 2) → wX4_append_B39 b Q M) ∧ (¬ (6 ≤ ts_w (M.1 (b + 6) 2)) → ((0 ≤ ts_w (M.1 (b + 6) 2) ∧ ts_w (M.1 (b + 6) 2) < ((6 : Nat) : Int)) ∧ ∀ M1, M1 = ts_si M (b + 7) (ts_w (M.1 (b + 6) 2)) p1 → ((0 ≤ ts_w (M1.1 (b + 6) 2) ∧ ts_w (M1.1 (b + 6) 2) < ((6 : Nat) : Int)) ∧ ∀ M2, M2 = ts_si M1 (b + 8) (ts_w (M1.1 (b + 6) 2)) p2 → (∀ M3, M3 = ts_si M2 (b + 6) 2 ((M2.1 (b + 6) 2) + 1) → wX4_append_B39 b Q M3)))))
set_option maxRecDepth 100000 in
set_option maxHeartbeats 4000000 in
theorem mX4_append {l : Launch} {g : ts_W} (hl : l.stackTraces = false) {b : Nat} (hb : ts_isS b) {p1 : Int} {p2 : Int} {Q : ts_M → Prop} {M : ts_M} : wX4_append b p1 p2 Q M → ts_Con l g yX4_append cX4_append 3 none 0 0 0 [.ref (ts_ad g (b + 6)), ts_v p1, ts_v p2] M (ts_Rv Q) := by
  intro h0
  refine ts_Con.of hl (by decide) (Nat.le_of_ble_eq_true rfl) ?_
  intro p e s m args below meth c C
  have H39 : ∀  (M : ts_M), wX4_append_B39 b  Q  M → ts_V p l e (ts_rm 0 0 0) s m args below meth c g 3 0 0 (MQ below (ts_Q g (ts_Rv Q)) args s 0 0 (ts_A g)) 39 [] [] M := by
    intro   M
    unfold wX4_append_B39
    exact ts_vreti C (Nat.zero_le _) (Nat.zero_le _) dX4_append_39
  revert h0
  unfold wX4_append
  have hl0 : lv_args 0 [.ref (ts_ad g (b + 6)), ts_v p1, ts_v p2] = [(0, .ref (ts_ad g (b + 6))), (1, ts_v p1), (2, ts_v p2)] := rfl
  rw [hl0]
  refine ts_aload_n C dX4_append_0 rfl 0 rfl ?_
  refine tgX4_2 hb C q_226 dX4_append_1 ?_
  refine ts_bipush C dX4_append_4 6 tb_6 ?_
  refine ts_cmp_ge C rfl tw_6 39 dX4_append_6 rfl ?_ ?_
  · exact ts_sub [] rfl (H39 _)
  · refine ts_aload_n C dX4_append_9 rfl 0 rfl ?_
    refine tgX4_0 hb C q_220 dX4_append_10 ?_
    refine ts_aload_n C dX4_append_13 rfl 0 rfl ?_
    refine tgX4_2 hb C q_226 dX4_append_14 ?_
    refine ts_iload_n C dX4_append_17 rfl 1 rfl ?_
    refine ts_iast C (ts_lt hb 7 (by decide)) (shS7 hb) dX4_append_18 (fun M1 => ?_)
    refine ts_aload_n C dX4_append_19 rfl 0 rfl ?_
    refine tgX4_1 hb C q_223 dX4_append_20 ?_
    refine ts_aload_n C dX4_append_23 rfl 0 rfl ?_
    refine tgX4_2 hb C q_226 dX4_append_24 ?_
    refine ts_iload_n C dX4_append_27 rfl 2 rfl ?_
    refine ts_iast C (ts_lt hb 8 (by decide)) (shS8 hb) dX4_append_28 (fun M2 => ?_)
    refine ts_aload_n C dX4_append_29 rfl 0 rfl ?_
    refine ts_dup C dX4_append_30 rfl ?_
    refine tgX4_2 hb C q_226 dX4_append_31 ?_
    refine ts_iconst C dX4_append_34 1 rfl ?_
    refine ts_iadd C dX4_append_35 ?_
    refine tpX4_2 hb C q_226 dX4_append_36 (fun M3 => ?_)
    exact ts_sub [] rfl (H39 _)
def wX4_remove_L16 (b : Nat)  (Q : ts_M → Prop) (k16 : Int → ts_M → Prop) (y3 : Int) (M : ts_M) : Prop :=
  ((ts_w (M.1 (b + 6) 2) ≤ ts_w y3 → (∀ M5, M5 = ts_si M (b + 6) 2 ((M.1 (b + 6) 2) - 1) → Q M5)) ∧ (¬ (ts_w (M.1 (b + 6) 2) ≤ ts_w y3) → ((0 ≤ ts_w y3 ∧ ts_w y3 < ((6 : Nat) : Int)) ∧ ((0 ≤ ts_w (y3 - 1) ∧ ts_w (y3 - 1) < ((6 : Nat) : Int)) ∧ ∀ M6, M6 = ts_si M (b + 7) (ts_w (y3 - 1)) (M.1 (b + 7) (ts_w y3)) → ((0 ≤ ts_w y3 ∧ ts_w y3 < ((6 : Nat) : Int)) ∧ ((0 ≤ ts_w (y3 - 1) ∧ ts_w (y3 - 1) < ((6 : Nat) : Int)) ∧ ∀ M7, M7 = ts_si M6 (b + 8) (ts_w (y3 - 1)) (M6.1 (b + 8) (ts_w y3)) → (∀ x8 : Int, x8 = y3 + 1 → k16 x8 M7)))))))
def wX4_remove (b : Nat) (p1 : Int) (Q : ts_M → Prop) (M : ts_M) : Prop :=
  (wX4_placeOf b p1 (fun r2 M1 => (∀ x3 : Int, x3 = r2 → ((¬ (ts_w x3 = (-1)) → (∀ x4 : Int, x4 = x3 + 1 → ∃ n, ts_lp1 (wX4_remove_L16 b Q) n x4 M1)) ∧ (ts_w x3 = (-1) → Q M1)))) M)
set_option maxRecDepth 100000 in
set_option maxHeartbeats 4000000 in
theorem mX4_remove {l : Launch} {g : ts_W} (hl : l.stackTraces = false) {b : Nat} (hb : ts_isS b) {p1 : Int} {Q : ts_M → Prop} {M : ts_M} : wX4_remove b p1 Q M → ts_Con l g yX4_remove cX4_remove 4 none 1 0 0 [.ref (ts_ad g (b + 6)), ts_v p1] M (ts_Rv Q) := by
  intro h0
  refine ts_Con.of hl (by decide) (Nat.le_of_ble_eq_true rfl) ?_
  intro p e s m args below meth c C
  have H16 : ∀ (n : Nat) (y3 : Int) (M : ts_M), ts_lp1 (wX4_remove_L16 b  Q) n y3 M → ts_V p l e (ts_rm 1 0 0) s m args below meth c g 4 0 0 (MQ below (ts_Q g (ts_Rv Q)) args s 0 0 (ts_A g)) 16 [(0, .ref (ts_ad g (b + 6))), (3, ts_v y3)] [] M := by
    refine ts_lpr1 (V := fun (y3 : Int) (M : ts_M) => ts_V p l e (ts_rm 1 0 0) s m args below meth c g 4 0 0 (MQ below (ts_Q g (ts_Rv Q)) args s 0 0 (ts_A g)) 16 [(0, .ref (ts_ad g (b + 6))), (3, ts_v y3)] [] M) ?_
    intro k16 hk16 y3 M
    unfold wX4_remove_L16
    refine ts_iload_n C dX4_remove_16 rfl 1 rfl ?_
    refine ts_aload_n C dX4_remove_17 rfl 0 rfl ?_
    refine tgX4_2 hb C q_226 dX4_remove_18 ?_
    refine ts_cmp_ge C rfl rfl 58 dX4_remove_21 rfl ?_ ?_
    · refine ts_aload_n C dX4_remove_58 rfl 0 rfl ?_
      refine ts_dup C dX4_remove_59 rfl ?_
      refine tgX4_2 hb C q_226 dX4_remove_60 ?_
      refine ts_iconst C dX4_remove_63 1 rfl ?_
      refine ts_isub C dX4_remove_64 ?_
      refine tpX4_2 hb C q_226 dX4_remove_65 (fun M5 => ?_)
      exact ts_vreti C (Nat.zero_le _) (Nat.zero_le _) dX4_remove_68
    · refine ts_aload_n C dX4_remove_24 rfl 0 rfl ?_
      refine tgX4_0 hb C q_220 dX4_remove_25 ?_
      refine ts_iload_n C dX4_remove_28 rfl 1 rfl ?_
      refine ts_iconst C dX4_remove_29 1 rfl ?_
      refine ts_isub C dX4_remove_30 ?_
      refine ts_aload_n C dX4_remove_31 rfl 0 rfl ?_
      refine tgX4_0 hb C q_220 dX4_remove_32 ?_
      refine ts_iload_n C dX4_remove_35 rfl 1 rfl ?_
      refine ts_iald C (ts_lt hb 7 (by decide)) (shS7 hb) dX4_remove_36 ?_
      refine ts_iast C (ts_lt hb 7 (by decide)) (shS7 hb) dX4_remove_37 (fun M6 => ?_)
      refine ts_aload_n C dX4_remove_38 rfl 0 rfl ?_
      refine tgX4_1 hb C q_223 dX4_remove_39 ?_
      refine ts_iload_n C dX4_remove_42 rfl 1 rfl ?_
      refine ts_iconst C dX4_remove_43 1 rfl ?_
      refine ts_isub C dX4_remove_44 ?_
      refine ts_aload_n C dX4_remove_45 rfl 0 rfl ?_
      refine tgX4_1 hb C q_223 dX4_remove_46 ?_
      refine ts_iload_n C dX4_remove_49 rfl 1 rfl ?_
      refine ts_iald C (ts_lt hb 8 (by decide)) (shS8 hb) dX4_remove_50 ?_
      refine ts_iast C (ts_lt hb 8 (by decide)) (shS8 hb) dX4_remove_51 (fun M7 => ?_)
      refine ts_iinc C dX4_remove_52 1 rfl (by decide) (lv' := fun x8 => [(3, ts_v x8), (0, .ref (ts_ad g (b + 6)))]) (fun _ => rfl) (fun x8 => ?_)
      refine ts_goto C 16 dX4_remove_55 rfl ?_
      exact ts_sub [1, 0] rfl (hk16 _ _)
  revert h0
  unfold wX4_remove
  have hl0 : lv_args 0 [.ref (ts_ad g (b + 6)), ts_v p1] = [(0, .ref (ts_ad g (b + 6))), (1, ts_v p1)] := rfl
  rw [hl0]
  refine ts_aload_n C dX4_remove_0 rfl 0 rfl ?_
  refine ts_iload_n C dX4_remove_1 rfl 1 rfl ?_
  refine ts_callVi C [ts_v p1] (mX4_placeOf hl hb) kX4_placeOf q_1298 (ts_lt hb 6 (by decide)) (shX4 hb) rfl rfl rfl (Nat.le_of_ble_eq_true rfl) ⟨Nat.le_of_ble_eq_true rfl, Nat.le_of_ble_eq_true rfl⟩ ⟨Nat.le_of_ble_eq_true rfl, Nat.le_of_ble_eq_true rfl⟩ dX4_remove_2 (fun r2 M1 => ?_)
  refine ts_istore_n C dX4_remove_5 rfl (by decide) (lv' := fun x3 => [(2, ts_v x3), (0, .ref (ts_ad g (b + 6))), (1, ts_v p1)]) (fun _ => rfl) (fun x3 => ?_)
  refine ts_iload_n C dX4_remove_6 rfl 0 rfl ?_
  refine ts_iconst C dX4_remove_7 (-1) rfl ?_
  refine ts_cmp_ne C rfl tw_m1 12 dX4_remove_8 rfl ?_ ?_
  · refine ts_iload_n C dX4_remove_12 rfl 0 rfl ?_
    refine ts_iconst C dX4_remove_13 1 rfl ?_
    refine ts_iadd C dX4_remove_14 ?_
    refine ts_istore_n C dX4_remove_15 rfl (by decide) (lv' := fun x4 => [(3, ts_v x4), (2, ts_v x3), (0, .ref (ts_ad g (b + 6))), (1, ts_v p1)]) (fun _ => rfl) (fun x4 => ?_)
    rintro ⟨n, hn⟩
    exact ts_sub [2, 0] rfl (H16 n _ _) hn
  · exact ts_vreti C (Nat.zero_le _) (Nat.zero_le _) dX4_remove_11
def wX4_moveToEnd_B26 (b : Nat)  (Q : ts_M → Prop)   (M : ts_M) : Prop :=
  Q M
def wX4_moveToEnd (b : Nat) (p1 : Int) (Q : ts_M → Prop) (M : ts_M) : Prop :=
  (wX4_placeOf b p1 (fun r2 M1 => ((ts_w r2 = (-1) → wX4_moveToEnd_B26 b Q M1) ∧ (¬ (ts_w r2 = (-1)) → (wX4_positionOf b p1 (fun r4 M3 => (∀ x5 : Int, x5 = r4 → (wX4_remove b p1 (fun M6 => (wX4_append b p1 x5 (fun M7 => wX4_moveToEnd_B26 b Q M7) M6)) M3))) M1)))) M)
set_option maxRecDepth 100000 in
set_option maxHeartbeats 4000000 in
theorem mX4_moveToEnd {l : Launch} {g : ts_W} (hl : l.stackTraces = false) {b : Nat} (hb : ts_isS b) {p1 : Int} {Q : ts_M → Prop} {M : ts_M} : wX4_moveToEnd b p1 Q M → ts_Con l g yX4_moveToEnd cX4_moveToEnd 3 none 2 0 0 [.ref (ts_ad g (b + 6)), ts_v p1] M (ts_Rv Q) := by
  intro h0
  refine ts_Con.of hl (by decide) (Nat.le_of_ble_eq_true rfl) ?_
  intro p e s m args below meth c C
  have H26 : ∀  (M : ts_M), wX4_moveToEnd_B26 b  Q  M → ts_V p l e (ts_rm 2 0 0) s m args below meth c g 3 0 0 (MQ below (ts_Q g (ts_Rv Q)) args s 0 0 (ts_A g)) 26 [] [] M := by
    intro   M
    unfold wX4_moveToEnd_B26
    exact ts_vreti C (Nat.zero_le _) (Nat.zero_le _) dX4_moveToEnd_26
  revert h0
  unfold wX4_moveToEnd
  have hl0 : lv_args 0 [.ref (ts_ad g (b + 6)), ts_v p1] = [(0, .ref (ts_ad g (b + 6))), (1, ts_v p1)] := rfl
  rw [hl0]
  refine ts_aload_n C dX4_moveToEnd_0 rfl 0 rfl ?_
  refine ts_iload_n C dX4_moveToEnd_1 rfl 1 rfl ?_
  refine ts_callVi C [ts_v p1] (mX4_placeOf hl hb) kX4_placeOf q_1298 (ts_lt hb 6 (by decide)) (shX4 hb) rfl rfl rfl (Nat.le_of_ble_eq_true rfl) ⟨Nat.le_of_ble_eq_true rfl, Nat.le_of_ble_eq_true rfl⟩ ⟨Nat.le_of_ble_eq_true rfl, Nat.le_of_ble_eq_true rfl⟩ dX4_moveToEnd_2 (fun r2 M1 => ?_)
  refine ts_iconst C dX4_moveToEnd_5 (-1) rfl ?_
  refine ts_cmp_eq C rfl tw_m1 26 dX4_moveToEnd_6 rfl ?_ ?_
  · exact ts_sub [] rfl (H26 _)
  · refine ts_aload_n C dX4_moveToEnd_9 rfl 0 rfl ?_
    refine ts_iload_n C dX4_moveToEnd_10 rfl 1 rfl ?_
    refine ts_callVi C [ts_v p1] (mX4_positionOf hl hb) kX4_positionOf q_1355 (ts_lt hb 6 (by decide)) (shX4 hb) rfl rfl rfl (Nat.le_of_ble_eq_true rfl) ⟨Nat.le_of_ble_eq_true rfl, Nat.le_of_ble_eq_true rfl⟩ ⟨Nat.le_of_ble_eq_true rfl, Nat.le_of_ble_eq_true rfl⟩ dX4_moveToEnd_11 (fun r4 M3 => ?_)
    refine ts_istore_n C dX4_moveToEnd_14 rfl (by decide) (lv' := fun x5 => [(2, ts_v x5), (0, .ref (ts_ad g (b + 6))), (1, ts_v p1)]) (fun _ => rfl) (fun x5 => ?_)
    refine ts_aload_n C dX4_moveToEnd_15 rfl 1 rfl ?_
    refine ts_iload_n C dX4_moveToEnd_16 rfl 2 rfl ?_
    refine ts_callVv C [ts_v p1] (mX4_remove hl hb) kX4_remove q_1356 (ts_lt hb 6 (by decide)) (shX4 hb) rfl rfl rfl (Nat.le_of_ble_eq_true rfl) ⟨Nat.le_of_ble_eq_true rfl, Nat.le_of_ble_eq_true rfl⟩ ⟨Nat.le_of_ble_eq_true rfl, Nat.le_of_ble_eq_true rfl⟩ dX4_moveToEnd_17 (fun M6 => ?_)
    refine ts_aload_n C dX4_moveToEnd_20 rfl 1 rfl ?_
    refine ts_iload_n C dX4_moveToEnd_21 rfl 2 rfl ?_
    refine ts_iload_n C dX4_moveToEnd_22 rfl 0 rfl ?_
    refine ts_callVv C [ts_v p1, ts_v x5] (mX4_append hl hb) kX4_append q_1268 (ts_lt hb 6 (by decide)) (shX4 hb) rfl rfl rfl (Nat.le_of_ble_eq_true rfl) ⟨Nat.le_of_ble_eq_true rfl, Nat.le_of_ble_eq_true rfl⟩ ⟨Nat.le_of_ble_eq_true rfl, Nat.le_of_ble_eq_true rfl⟩ dX4_moveToEnd_23 (fun M7 => ?_)
    exact ts_sub [] rfl (H26 _)
def wX5_isIn_B13   (Q : Int → ts_M → Prop)  (z0 : Int) (M : ts_M) : Prop :=
  ((ts_w z0 = 0 ∨ ts_w z0 = 1) ∧ Q z0 M)
def wX5_isIn (p1 : Int) (p2 : Int) (Q : Int → ts_M → Prop) (M : ts_M) : Prop :=
  ((ts_w (ts_and (ts_shr p2 p1) 1) = 0 → wX5_isIn_B13 Q 0 M) ∧ (¬ (ts_w (ts_and (ts_shr p2 p1) 1) = 0) → wX5_isIn_B13 Q 1 M))
set_option maxRecDepth 100000 in
set_option maxHeartbeats 4000000 in
theorem mX5_isIn {l : Launch} {g : ts_W} (hl : l.stackTraces = false) {p1 : Int} {p2 : Int} {Q : Int → ts_M → Prop} {M : ts_M} : wX5_isIn p1 p2 Q M → ts_Con l g yX5_isIn cX5_isIn 2 (some .boolean) 0 0 0 [ts_v p1, ts_v p2] M (ts_Ri Q) := by
  intro h0
  refine ts_Con.of hl (by decide) (Nat.le_of_ble_eq_true rfl) ?_
  intro p e s m args below meth c C
  have H13 : ∀ (z0 : Int) (M : ts_M), wX5_isIn_B13   Q z0 M → ts_V p l e (ts_rm 0 0 0) s m args below meth c g 2 0 0 (MQ below (ts_Q g (ts_Ri Q)) args s 0 0 (ts_A g)) 13 [] [ts_v z0] M := by
    intro  z0 M
    unfold wX5_isIn_B13
    exact ts_zreti C (Nat.zero_le _) (Nat.zero_le _) dX5_isIn_13
  revert h0
  unfold wX5_isIn
  have hl0 : lv_args 0 [ts_v p1, ts_v p2] = [(0, ts_v p1), (1, ts_v p2)] := rfl
  rw [hl0]
  refine ts_iload_n C dX5_isIn_0 rfl 1 rfl ?_
  refine ts_iload_n C dX5_isIn_1 rfl 0 rfl ?_
  refine ts_ishr C dX5_isIn_2 ?_
  refine ts_iconst C dX5_isIn_3 1 rfl ?_
  refine ts_iand C dX5_isIn_4 ?_
  refine ts_cm0_eq C rfl 12 dX5_isIn_5 rfl ?_ ?_
  · refine ts_iconst C dX5_isIn_12 0 rfl ?_
    exact ts_sub [] rfl (H13 _ _)
  · refine ts_iconst C dX5_isIn_8 1 rfl ?_
    refine ts_goto C 13 dX5_isIn_9 rfl ?_
    exact ts_sub [] rfl (H13 _ _)
def wX5_allPlaces (Q : Int → ts_M → Prop) (M : ts_M) : Prop :=
  Q ((ts_shl 1 (M.1 155 2)) - 1) M
set_option maxRecDepth 100000 in
set_option maxHeartbeats 4000000 in
theorem mX5_allPlaces {l : Launch} {g : ts_W} (hl : l.stackTraces = false) {Q : Int → ts_M → Prop} {M : ts_M} : wX5_allPlaces Q M → ts_Con l g yX5_allPlaces cX5_allPlaces 1 (some .int) 0 0 0 [.ref (ts_ad g 155)] M (ts_Ri Q) := by
  intro h0
  refine ts_Con.of hl (by decide) (Nat.le_of_ble_eq_true rfl) ?_
  intro p e s m args below meth c C
  revert h0
  unfold wX5_allPlaces
  have hl0 : lv_args 0 [.ref (ts_ad g 155)] = [(0, .ref (ts_ad g 155))] := rfl
  rw [hl0]
  refine ts_iconst C dX5_allPlaces_0 1 rfl ?_
  refine ts_aload_n C dX5_allPlaces_1 rfl 0 rfl ?_
  refine tgX5_2 C q_355 dX5_allPlaces_2 ?_
  refine ts_ishl C dX5_allPlaces_5 ?_
  refine ts_iconst C dX5_allPlaces_6 1 rfl ?_
  refine ts_isub C dX5_allPlaces_7 ?_
  exact ts_ireti C (Nat.zero_le _) (Nat.zero_le _) dX5_allPlaces_8
def wX5_disagreements_B49  (k5 : Int → Int → Int → Int → ts_M → Prop) (Q : Int → ts_M → Prop)  (y1 : Int) (y2 : Int) (y3 : Int) (y4 : Int) (M : ts_M) : Prop :=
  (∀ x6 : Int, x6 = y4 + 1 → k5 y1 y2 y3 x6 M)
def wX5_disagreements_L5   (Q : Int → ts_M → Prop) (k5 : Int → Int → Int → Int → ts_M → Prop) (y1 : Int) (y2 : Int) (y3 : Int) (y4 : Int) (M : ts_M) : Prop :=
  ((6 ≤ ts_w y4 → Q y3 M) ∧ (¬ (6 ≤ ts_w y4) → (∀ x3 : Int, x3 = (y4 * 6) + y1 → (wX5_isIn y4 y2 (fun r5 M4 => ((ts_w r5 = 0 → wX5_disagreements_B49 k5 Q y1 y2 y3 y4 M4) ∧ (¬ (ts_w r5 = 0) → ((ts_w x3 < 0 → wX5_disagreements_B49 k5 Q y1 y2 y3 y4 M4) ∧ (¬ (ts_w x3 < 0) → ((ts_w ((36 : Nat) : Int) ≤ ts_w x3 → wX5_disagreements_B49 k5 Q y1 y2 y3 y4 M4) ∧ (¬ (ts_w ((36 : Nat) : Int) ≤ ts_w x3) → ((0 ≤ ts_w x3 ∧ ts_w x3 < ((36 : Nat) : Int)) ∧ (∀ x7 : Int, x7 = y3 + (M4.1 156 (ts_w x3)) → wX5_disagreements_B49 k5 Q y1 y2 x7 y4 M4))))))))) M))))
def wX5_disagreements (p2 : Int) (p3 : Int) (Q : Int → ts_M → Prop) (M : ts_M) : Prop :=
  (∀ x1 : Int, x1 = 0 → (∀ x2 : Int, x2 = 0 → ∃ n, ts_lp4 (wX5_disagreements_L5 Q) n p2 p3 x1 x2 M))
set_option maxRecDepth 100000 in
set_option maxHeartbeats 4000000 in
theorem mX5_disagreements {l : Launch} {g : ts_W} (hl : l.stackTraces = false) {p2 : Int} {p3 : Int} {Q : Int → ts_M → Prop} {M : ts_M} : wX5_disagreements p2 p3 Q M → ts_Con l g yX5_disagreements cX5_disagreements 6 (some .int) 1 0 0 [.ref (ts_ad g 156), ts_v p2, ts_v p3] M (ts_Ri Q) := by
  intro h0
  refine ts_Con.of hl (by decide) (Nat.le_of_ble_eq_true rfl) ?_
  intro p e s m args below meth c C
  have H49 : ∀ (k5 : Int → Int → Int → Int → ts_M → Prop) (hk5 : ∀ (y1 : Int) (y2 : Int) (y3 : Int) (y4 : Int) (M : ts_M), k5 y1 y2 y3 y4 M → ts_V p l e (ts_rm 1 0 0) s m args below meth c g 6 0 0 (MQ below (ts_Q g (ts_Ri Q)) args s 0 0 (ts_A g)) 5 [(0, .ref (ts_ad g 156)), (1, ts_v y1), (2, ts_v y2), (3, ts_v y3), (4, ts_v y4)] [] M) (y1 : Int) (y2 : Int) (y3 : Int) (y4 : Int) (M : ts_M), wX5_disagreements_B49  k5 Q y1 y2 y3 y4 M → ts_V p l e (ts_rm 1 0 0) s m args below meth c g 6 0 0 (MQ below (ts_Q g (ts_Ri Q)) args s 0 0 (ts_A g)) 49 [(0, .ref (ts_ad g 156)), (1, ts_v y1), (2, ts_v y2), (3, ts_v y3), (4, ts_v y4)] [] M := by
    intro k5 hk5 y1 y2 y3 y4 M
    unfold wX5_disagreements_B49
    refine ts_iinc C dX5_disagreements_49 4 rfl (by decide) (lv' := fun x6 => [(4, ts_v x6), (0, .ref (ts_ad g 156)), (1, ts_v y1), (2, ts_v y2), (3, ts_v y3)]) (fun _ => rfl) (fun x6 => ?_)
    refine ts_goto C 5 dX5_disagreements_52 rfl ?_
    exact ts_sub [1, 2, 3, 4, 0] rfl (hk5 _ _ _ _ _)
  have H5 : ∀ (n : Nat) (y1 : Int) (y2 : Int) (y3 : Int) (y4 : Int) (M : ts_M), ts_lp4 (wX5_disagreements_L5   Q) n y1 y2 y3 y4 M → ts_V p l e (ts_rm 1 0 0) s m args below meth c g 6 0 0 (MQ below (ts_Q g (ts_Ri Q)) args s 0 0 (ts_A g)) 5 [(0, .ref (ts_ad g 156)), (1, ts_v y1), (2, ts_v y2), (3, ts_v y3), (4, ts_v y4)] [] M := by
    refine ts_lpr4 (V := fun (y1 : Int) (y2 : Int) (y3 : Int) (y4 : Int) (M : ts_M) => ts_V p l e (ts_rm 1 0 0) s m args below meth c g 6 0 0 (MQ below (ts_Q g (ts_Ri Q)) args s 0 0 (ts_A g)) 5 [(0, .ref (ts_ad g 156)), (1, ts_v y1), (2, ts_v y2), (3, ts_v y3), (4, ts_v y4)] [] M) ?_
    intro k5 hk5 y1 y2 y3 y4 M
    unfold wX5_disagreements_L5
    refine ts_iload C dX5_disagreements_5 4 rfl ?_
    refine ts_bipush C dX5_disagreements_7 6 tb_6 ?_
    refine ts_cmp_ge C rfl tw_6 55 dX5_disagreements_9 rfl ?_ ?_
    · refine ts_iload_n C dX5_disagreements_55 rfl 3 rfl ?_
      exact ts_ireti C (Nat.zero_le _) (Nat.zero_le _) dX5_disagreements_56
    · refine ts_iload C dX5_disagreements_12 4 rfl ?_
      refine ts_bipush C dX5_disagreements_14 6 tb_6 ?_
      refine ts_imul C dX5_disagreements_16 ?_
      refine ts_iload_n C dX5_disagreements_17 rfl 1 rfl ?_
      refine ts_iadd C dX5_disagreements_18 ?_
      refine ts_istore C dX5_disagreements_19 (by decide) (lv' := fun x3 => [(5, ts_v x3), (0, .ref (ts_ad g 156)), (1, ts_v y1), (2, ts_v y2), (3, ts_v y3), (4, ts_v y4)]) (fun _ => rfl) (fun x3 => ?_)
      refine ts_iload C dX5_disagreements_21 5 rfl ?_
      refine ts_iload_n C dX5_disagreements_23 rfl 3 rfl ?_
      refine ts_callSi C [ts_v y4, ts_v y2] (mX5_isIn hl) kX5_isIn q_506 rfl rfl (Nat.le_of_ble_eq_true rfl) ⟨Nat.le_of_ble_eq_true rfl, Nat.le_of_ble_eq_true rfl⟩ ⟨Nat.le_of_ble_eq_true rfl, Nat.le_of_ble_eq_true rfl⟩ dX5_disagreements_24 (fun r5 M4 => ?_)
      refine ts_cm0_eq C rfl 49 dX5_disagreements_27 rfl ?_ ?_
      · exact ts_sub [1, 2, 3, 4, 5] rfl (H49 k5 hk5 _ _ _ _ _)
      · refine ts_iload C dX5_disagreements_30 0 rfl ?_
        refine ts_cm0_lt C rfl 49 dX5_disagreements_32 rfl ?_ ?_
        · exact ts_sub [1, 2, 3, 4, 5] rfl (H49 k5 hk5 _ _ _ _ _)
        · refine ts_iload C dX5_disagreements_35 0 rfl ?_
          refine ts_aload_n C dX5_disagreements_37 rfl 1 rfl ?_
          refine ts_alenI C (by decide) shG156 dX5_disagreements_38 ?_
          refine ts_cmp_ge C rfl rfl 49 dX5_disagreements_39 rfl ?_ ?_
          · exact ts_sub [1, 2, 3, 4, 5] rfl (H49 k5 hk5 _ _ _ _ _)
          · refine ts_iload_n C dX5_disagreements_42 rfl 4 rfl ?_
            refine ts_aload_n C dX5_disagreements_43 rfl 1 rfl ?_
            refine ts_iload C dX5_disagreements_44 0 rfl ?_
            refine ts_iald C (by decide) shG156 dX5_disagreements_46 ?_
            refine ts_iadd C dX5_disagreements_47 ?_
            refine ts_istore_n C dX5_disagreements_48 rfl (by decide) (lv' := fun x7 => [(3, ts_v x7), (5, ts_v x3), (0, .ref (ts_ad g 156)), (1, ts_v y1), (2, ts_v y2), (4, ts_v y4)]) (fun _ => rfl) (fun x7 => ?_)
            exact ts_sub [2, 3, 4, 0, 5] rfl (H49 k5 hk5 _ _ _ _ _)
  revert h0
  unfold wX5_disagreements
  have hl0 : lv_args 0 [.ref (ts_ad g 156), ts_v p2, ts_v p3] = [(0, .ref (ts_ad g 156)), (1, ts_v p2), (2, ts_v p3)] := rfl
  rw [hl0]
  refine ts_iconst C dX5_disagreements_0 0 rfl ?_
  refine ts_istore_n C dX5_disagreements_1 rfl (by decide) (lv' := fun x1 => [(3, ts_v x1), (0, .ref (ts_ad g 156)), (1, ts_v p2), (2, ts_v p3)]) (fun _ => rfl) (fun x1 => ?_)
  refine ts_iconst C dX5_disagreements_2 0 rfl ?_
  refine ts_istore C dX5_disagreements_3 (by decide) (lv' := fun x2 => [(4, ts_v x2), (3, ts_v x1), (0, .ref (ts_ad g 156)), (1, ts_v p2), (2, ts_v p3)]) (fun _ => rfl) (fun x2 => ?_)
  rintro ⟨n, hn⟩
  exact ts_sub [2, 3, 4, 1, 0] rfl (H5 n _ _ _ _ _) hn
def wX5_fewestWithFirst_B21   (Q : Int → ts_M → Prop)   (M : ts_M) : Prop :=
  Q 1000000 M
def wX5_fewestWithFirst (p1 : Int) (p2 : Int) (Q : Int → ts_M → Prop) (M : ts_M) : Prop :=
  (∀ x1 : Int, x1 = ts_and p2 (ts_xor (ts_shl 1 p1) (-1)) → ((ts_w x1 < 0 → wX5_fewestWithFirst_B21 Q M) ∧ (¬ (ts_w x1 < 0) → ((ts_w x1 < ts_w ((64 : Nat) : Int) → ((0 ≤ ts_w x1 ∧ ts_w x1 < ((64 : Nat) : Int)) ∧ (wX5_disagreements p1 x1 (fun r3 M2 => Q ((M.1 157 (ts_w x1)) + r3) M2) M))) ∧ (¬ (ts_w x1 < ts_w ((64 : Nat) : Int)) → wX5_fewestWithFirst_B21 Q M)))))
set_option maxRecDepth 100000 in
set_option maxHeartbeats 4000000 in
theorem mX5_fewestWithFirst {l : Launch} {g : ts_W} (hl : l.stackTraces = false) {p1 : Int} {p2 : Int} {Q : Int → ts_M → Prop} {M : ts_M} : wX5_fewestWithFirst p1 p2 Q M → ts_Con l g yX5_fewestWithFirst cX5_fewestWithFirst 4 (some .int) 2 0 0 [.ref (ts_ad g 155), ts_v p1, ts_v p2] M (ts_Ri Q) := by
  intro h0
  refine ts_Con.of hl (by decide) (Nat.le_of_ble_eq_true rfl) ?_
  intro p e s m args below meth c C
  have H21 : ∀  (M : ts_M), wX5_fewestWithFirst_B21   Q  M → ts_V p l e (ts_rm 2 0 0) s m args below meth c g 4 0 0 (MQ below (ts_Q g (ts_Ri Q)) args s 0 0 (ts_A g)) 21 [] [] M := by
    intro   M
    unfold wX5_fewestWithFirst_B21
    refine ts_ldc C dX5_fewestWithFirst_21 q_505 1000000 (by decide) ?_
    exact ts_ireti C (Nat.zero_le _) (Nat.zero_le _) dX5_fewestWithFirst_23
  revert h0
  unfold wX5_fewestWithFirst
  have hl0 : lv_args 0 [.ref (ts_ad g 155), ts_v p1, ts_v p2] = [(0, .ref (ts_ad g 155)), (1, ts_v p1), (2, ts_v p2)] := rfl
  rw [hl0]
  refine ts_iload_n C dX5_fewestWithFirst_0 rfl 2 rfl ?_
  refine ts_iconst C dX5_fewestWithFirst_1 1 rfl ?_
  refine ts_iload_n C dX5_fewestWithFirst_2 rfl 1 rfl ?_
  refine ts_ishl C dX5_fewestWithFirst_3 ?_
  refine ts_iconst C dX5_fewestWithFirst_4 (-1) rfl ?_
  refine ts_ixor C dX5_fewestWithFirst_5 ?_
  refine ts_iand C dX5_fewestWithFirst_6 ?_
  refine ts_istore_n C dX5_fewestWithFirst_7 rfl (by decide) (lv' := fun x1 => [(3, ts_v x1), (0, .ref (ts_ad g 155)), (1, ts_v p1), (2, ts_v p2)]) (fun _ => rfl) (fun x1 => ?_)
  refine ts_iload_n C dX5_fewestWithFirst_8 rfl 0 rfl ?_
  refine ts_cm0_lt C rfl 21 dX5_fewestWithFirst_9 rfl ?_ ?_
  · exact ts_sub [] rfl (H21 _)
  · refine ts_iload_n C dX5_fewestWithFirst_12 rfl 0 rfl ?_
    refine ts_aload_n C dX5_fewestWithFirst_13 rfl 1 rfl ?_
    refine tgX5_1 C q_354 dX5_fewestWithFirst_14 ?_
    refine ts_alenI C (by decide) shG157 dX5_fewestWithFirst_17 ?_
    refine ts_cmp_lt C rfl rfl 24 dX5_fewestWithFirst_18 rfl ?_ ?_
    · refine ts_aload_n C dX5_fewestWithFirst_24 rfl 1 rfl ?_
      refine tgX5_1 C q_354 dX5_fewestWithFirst_25 ?_
      refine ts_iload_n C dX5_fewestWithFirst_28 rfl 0 rfl ?_
      refine ts_iald C (by decide) shG157 dX5_fewestWithFirst_29 ?_
      refine ts_aload_n C dX5_fewestWithFirst_30 rfl 1 rfl ?_
      refine tgX5_0 C q_353 dX5_fewestWithFirst_31 ?_
      refine ts_iload_n C dX5_fewestWithFirst_34 rfl 2 rfl ?_
      refine ts_iload_n C dX5_fewestWithFirst_35 rfl 0 rfl ?_
      refine ts_callSi C [.ref (ts_ad g 156), ts_v p1, ts_v x1] (mX5_disagreements hl) kX5_disagreements q_513 rfl rfl (Nat.le_of_ble_eq_true rfl) ⟨Nat.le_of_ble_eq_true rfl, Nat.le_of_ble_eq_true rfl⟩ ⟨Nat.le_of_ble_eq_true rfl, Nat.le_of_ble_eq_true rfl⟩ dX5_fewestWithFirst_36 (fun r3 M2 => ?_)
      refine ts_iadd C dX5_fewestWithFirst_39 ?_
      exact ts_ireti C (Nat.zero_le _) (Nat.zero_le _) dX5_fewestWithFirst_40
    · exact ts_sub [] rfl (H21 _)
def wX5_bestFirst_B63 (b : Nat) (k5 : Int → Int → Int → ts_M → Prop) (Q : Int → ts_M → Prop)  (y1 : Int) (y3 : Int) (y4 : Int) (M : ts_M) : Prop :=
  (∀ x5 : Int, x5 = y4 + 1 → k5 y1 y3 x5 M)
def wX5_bestFirst_B60 (b : Nat) (k5 : Int → Int → Int → ts_M → Prop) (Q : Int → ts_M → Prop)  (y1 : Int) (y4 : Int) (M : ts_M) : Prop :=
  (∀ x8 : Int, x8 = y4 → wX5_bestFirst_B63 b k5 Q y1 x8 y4 M)
def wX5_bestFirst_L5 (b : Nat)  (Q : Int → ts_M → Prop) (k5 : Int → Int → Int → ts_M → Prop) (y1 : Int) (y3 : Int) (y4 : Int) (M : ts_M) : Prop :=
  ((ts_w (M.1 155 2) ≤ ts_w y4 → Q y3 M) ∧ (¬ (ts_w (M.1 155 2) ≤ ts_w y4) → (wX5_isIn y4 y1 (fun r4 M3 => ((ts_w r4 = 0 → wX5_bestFirst_B63 b k5 Q y1 y3 y4 M3) ∧ (¬ (ts_w r4 = 0) → (wX5_fewestWithFirst y4 y1 (fun r7 M6 => ((0 ≤ ts_w y1 ∧ ts_w y1 < ((64 : Nat) : Int)) ∧ ((¬ (ts_w r7 = ts_w (M6.1 157 (ts_w y1))) → wX5_bestFirst_B63 b k5 Q y1 y3 y4 M6) ∧ (ts_w r7 = ts_w (M6.1 157 (ts_w y1)) → ((ts_w y3 = (-1) → wX5_bestFirst_B60 b k5 Q y1 y4 M6) ∧ (¬ (ts_w y3 = (-1)) → ((0 ≤ ts_w y4 ∧ ts_w y4 < ((6 : Nat) : Int)) ∧ ((0 ≤ ts_w y3 ∧ ts_w y3 < ((6 : Nat) : Int)) ∧ ((ts_w (M6.1 (b + 7) (ts_w y3)) ≤ ts_w (M6.1 (b + 7) (ts_w y4)) → wX5_bestFirst_B63 b k5 Q y1 y3 y4 M6) ∧ (¬ (ts_w (M6.1 (b + 7) (ts_w y3)) ≤ ts_w (M6.1 (b + 7) (ts_w y4))) → wX5_bestFirst_B60 b k5 Q y1 y4 M6)))))))))) M3)))) M)))
def wX5_bestFirst (b : Nat) (p1 : Int) (Q : Int → ts_M → Prop) (M : ts_M) : Prop :=
  (∀ x1 : Int, x1 = (-1) → (∀ x2 : Int, x2 = 0 → ∃ n, ts_lp3 (wX5_bestFirst_L5 b Q) n p1 x1 x2 M))
set_option maxRecDepth 100000 in
set_option maxHeartbeats 4000000 in
theorem mX5_bestFirst {l : Launch} {g : ts_W} (hl : l.stackTraces = false) {b : Nat} (hb : ts_isS b) {p1 : Int} {Q : Int → ts_M → Prop} {M : ts_M} : wX5_bestFirst b p1 Q M → ts_Con l g yX5_bestFirst cX5_bestFirst 5 (some .int) 3 0 0 [.ref (ts_ad g 155), ts_v p1, .ref (ts_ad g (b + 6))] M (ts_Ri Q) := by
  intro h0
  refine ts_Con.of hl (by decide) (Nat.le_of_ble_eq_true rfl) ?_
  intro p e s m args below meth c C
  have H63 : ∀ (k5 : Int → Int → Int → ts_M → Prop) (hk5 : ∀ (y1 : Int) (y3 : Int) (y4 : Int) (M : ts_M), k5 y1 y3 y4 M → ts_V p l e (ts_rm 3 0 0) s m args below meth c g 5 0 0 (MQ below (ts_Q g (ts_Ri Q)) args s 0 0 (ts_A g)) 5 [(0, .ref (ts_ad g 155)), (1, ts_v y1), (2, .ref (ts_ad g (b + 6))), (3, ts_v y3), (4, ts_v y4)] [] M) (y1 : Int) (y3 : Int) (y4 : Int) (M : ts_M), wX5_bestFirst_B63 b k5 Q y1 y3 y4 M → ts_V p l e (ts_rm 3 0 0) s m args below meth c g 5 0 0 (MQ below (ts_Q g (ts_Ri Q)) args s 0 0 (ts_A g)) 63 [(0, .ref (ts_ad g 155)), (1, ts_v y1), (2, .ref (ts_ad g (b + 6))), (3, ts_v y3), (4, ts_v y4)] [] M := by
    intro k5 hk5 y1 y3 y4 M
    unfold wX5_bestFirst_B63
    refine ts_iinc C dX5_bestFirst_63 4 rfl (by decide) (lv' := fun x5 => [(4, ts_v x5), (0, .ref (ts_ad g 155)), (1, ts_v y1), (2, .ref (ts_ad g (b + 6))), (3, ts_v y3)]) (fun _ => rfl) (fun x5 => ?_)
    refine ts_goto C 5 dX5_bestFirst_66 rfl ?_
    exact ts_sub [1, 2, 3, 4, 0] rfl (hk5 _ _ _ _)
  have H60 : ∀ (k5 : Int → Int → Int → ts_M → Prop) (hk5 : ∀ (y1 : Int) (y3 : Int) (y4 : Int) (M : ts_M), k5 y1 y3 y4 M → ts_V p l e (ts_rm 3 0 0) s m args below meth c g 5 0 0 (MQ below (ts_Q g (ts_Ri Q)) args s 0 0 (ts_A g)) 5 [(0, .ref (ts_ad g 155)), (1, ts_v y1), (2, .ref (ts_ad g (b + 6))), (3, ts_v y3), (4, ts_v y4)] [] M) (y1 : Int) (y4 : Int) (M : ts_M), wX5_bestFirst_B60 b k5 Q y1 y4 M → ts_V p l e (ts_rm 3 0 0) s m args below meth c g 5 0 0 (MQ below (ts_Q g (ts_Ri Q)) args s 0 0 (ts_A g)) 60 [(0, .ref (ts_ad g 155)), (1, ts_v y1), (2, .ref (ts_ad g (b + 6))), (4, ts_v y4)] [] M := by
    intro k5 hk5 y1 y4 M
    unfold wX5_bestFirst_B60
    refine ts_iload C dX5_bestFirst_60 3 rfl ?_
    refine ts_istore_n C dX5_bestFirst_62 rfl (by decide) (lv' := fun x8 => [(3, ts_v x8), (0, .ref (ts_ad g 155)), (1, ts_v y1), (2, .ref (ts_ad g (b + 6))), (4, ts_v y4)]) (fun _ => rfl) (fun x8 => ?_)
    exact ts_sub [1, 2, 3, 0, 4] rfl (H63 k5 hk5 _ _ _ _)
  have H5 : ∀ (n : Nat) (y1 : Int) (y3 : Int) (y4 : Int) (M : ts_M), ts_lp3 (wX5_bestFirst_L5 b  Q) n y1 y3 y4 M → ts_V p l e (ts_rm 3 0 0) s m args below meth c g 5 0 0 (MQ below (ts_Q g (ts_Ri Q)) args s 0 0 (ts_A g)) 5 [(0, .ref (ts_ad g 155)), (1, ts_v y1), (2, .ref (ts_ad g (b + 6))), (3, ts_v y3), (4, ts_v y4)] [] M := by
    refine ts_lpr3 (V := fun (y1 : Int) (y3 : Int) (y4 : Int) (M : ts_M) => ts_V p l e (ts_rm 3 0 0) s m args below meth c g 5 0 0 (MQ below (ts_Q g (ts_Ri Q)) args s 0 0 (ts_A g)) 5 [(0, .ref (ts_ad g 155)), (1, ts_v y1), (2, .ref (ts_ad g (b + 6))), (3, ts_v y3), (4, ts_v y4)] [] M) ?_
    intro k5 hk5 y1 y3 y4 M
    unfold wX5_bestFirst_L5
    refine ts_iload C dX5_bestFirst_5 4 rfl ?_
    refine ts_aload_n C dX5_bestFirst_7 rfl 0 rfl ?_
    refine tgX5_2 C q_355 dX5_bestFirst_8 ?_
    refine ts_cmp_ge C rfl rfl 69 dX5_bestFirst_11 rfl ?_ ?_
    · refine ts_iload_n C dX5_bestFirst_69 rfl 3 rfl ?_
      exact ts_ireti C (Nat.zero_le _) (Nat.zero_le _) dX5_bestFirst_70
    · refine ts_iload C dX5_bestFirst_14 4 rfl ?_
      refine ts_iload_n C dX5_bestFirst_16 rfl 1 rfl ?_
      refine ts_callSi C [ts_v y4, ts_v y1] (mX5_isIn hl) kX5_isIn q_506 rfl rfl (Nat.le_of_ble_eq_true rfl) ⟨Nat.le_of_ble_eq_true rfl, Nat.le_of_ble_eq_true rfl⟩ ⟨Nat.le_of_ble_eq_true rfl, Nat.le_of_ble_eq_true rfl⟩ dX5_bestFirst_17 (fun r4 M3 => ?_)
      refine ts_cm0_eq C rfl 63 dX5_bestFirst_20 rfl ?_ ?_
      · exact ts_sub [0, 1, 2, 3, 4] rfl (H63 k5 hk5 _ _ _ _)
      · refine ts_aload_n C dX5_bestFirst_23 rfl 0 rfl ?_
        refine ts_iload C dX5_bestFirst_24 4 rfl ?_
        refine ts_iload_n C dX5_bestFirst_26 rfl 1 rfl ?_
        refine ts_callVi C [ts_v y4, ts_v y1] (mX5_fewestWithFirst hl) kX5_fewestWithFirst q_509 (by decide) shX5 rfl rfl rfl (Nat.le_of_ble_eq_true rfl) ⟨Nat.le_of_ble_eq_true rfl, Nat.le_of_ble_eq_true rfl⟩ ⟨Nat.le_of_ble_eq_true rfl, Nat.le_of_ble_eq_true rfl⟩ dX5_bestFirst_27 (fun r7 M6 => ?_)
        refine ts_aload_n C dX5_bestFirst_30 rfl 0 rfl ?_
        refine tgX5_1 C q_354 dX5_bestFirst_31 ?_
        refine ts_iload_n C dX5_bestFirst_34 rfl 1 rfl ?_
        refine ts_iald C (by decide) shG157 dX5_bestFirst_35 ?_
        refine ts_cmp_ne C rfl rfl 63 dX5_bestFirst_36 rfl ?_ ?_
        · exact ts_sub [0, 1, 2, 3, 4] rfl (H63 k5 hk5 _ _ _ _)
        · refine ts_iload_n C dX5_bestFirst_39 rfl 3 rfl ?_
          refine ts_iconst C dX5_bestFirst_40 (-1) rfl ?_
          refine ts_cmp_eq C rfl tw_m1 60 dX5_bestFirst_41 rfl ?_ ?_
          · exact ts_sub [0, 1, 2, 4] rfl (H60 k5 hk5 _ _ _)
          · refine ts_aload_n C dX5_bestFirst_44 rfl 2 rfl ?_
            refine tgX4_0 hb C q_221 dX5_bestFirst_45 ?_
            refine ts_iload C dX5_bestFirst_48 4 rfl ?_
            refine ts_iald C (ts_lt hb 7 (by decide)) (shS7 hb) dX5_bestFirst_50 ?_
            refine ts_aload_n C dX5_bestFirst_51 rfl 2 rfl ?_
            refine tgX4_0 hb C q_221 dX5_bestFirst_52 ?_
            refine ts_iload_n C dX5_bestFirst_55 rfl 3 rfl ?_
            refine ts_iald C (ts_lt hb 7 (by decide)) (shS7 hb) dX5_bestFirst_56 ?_
            refine ts_cmp_ge C rfl rfl 63 dX5_bestFirst_57 rfl ?_ ?_
            · exact ts_sub [0, 1, 2, 3, 4] rfl (H63 k5 hk5 _ _ _ _)
            · exact ts_sub [0, 1, 2, 4] rfl (H60 k5 hk5 _ _ _)
  revert h0
  unfold wX5_bestFirst
  have hl0 : lv_args 0 [.ref (ts_ad g 155), ts_v p1, .ref (ts_ad g (b + 6))] = [(0, .ref (ts_ad g 155)), (1, ts_v p1), (2, .ref (ts_ad g (b + 6)))] := rfl
  rw [hl0]
  refine ts_iconst C dX5_bestFirst_0 (-1) rfl ?_
  refine ts_istore_n C dX5_bestFirst_1 rfl (by decide) (lv' := fun x1 => [(3, ts_v x1), (0, .ref (ts_ad g 155)), (1, ts_v p1), (2, .ref (ts_ad g (b + 6)))]) (fun _ => rfl) (fun x1 => ?_)
  refine ts_iconst C dX5_bestFirst_2 0 rfl ?_
  refine ts_istore C dX5_bestFirst_3 (by decide) (lv' := fun x2 => [(4, ts_v x2), (3, ts_v x1), (0, .ref (ts_ad g 155)), (1, ts_v p1), (2, .ref (ts_ad g (b + 6)))]) (fun _ => rfl) (fun x2 => ?_)
  rintro ⟨n, hn⟩
  exact ts_sub [2, 3, 4, 1, 0] rfl (H5 n _ _ _ _) hn
def wX5_beats_B30   (Q : Int → ts_M → Prop)  (z0 : Int) (M : ts_M) : Prop :=
  ((ts_w z0 = 0 ∨ ts_w z0 = 1) ∧ Q z0 M)
def wX5_beats (p1 : Int) (p2 : Int) (Q : Int → ts_M → Prop) (M : ts_M) : Prop :=
  ((0 ≤ ts_w ((p1 * 6) + p2) ∧ ts_w ((p1 * 6) + p2) < ((36 : Nat) : Int)) ∧ ((0 ≤ ts_w ((p2 * 6) + p1) ∧ ts_w ((p2 * 6) + p1) < ((36 : Nat) : Int)) ∧ ((ts_w (M.1 156 (ts_w ((p1 * 6) + p2))) ≤ ts_w (M.1 156 (ts_w ((p2 * 6) + p1))) → wX5_beats_B30 Q 0 M) ∧ (¬ (ts_w (M.1 156 (ts_w ((p1 * 6) + p2))) ≤ ts_w (M.1 156 (ts_w ((p2 * 6) + p1)))) → wX5_beats_B30 Q 1 M))))
set_option maxRecDepth 100000 in
set_option maxHeartbeats 4000000 in
theorem mX5_beats {l : Launch} {g : ts_W} (hl : l.stackTraces = false) {p1 : Int} {p2 : Int} {Q : Int → ts_M → Prop} {M : ts_M} : wX5_beats p1 p2 Q M → ts_Con l g yX5_beats cX5_beats 3 (some .boolean) 0 0 0 [.ref (ts_ad g 155), ts_v p1, ts_v p2] M (ts_Ri Q) := by
  intro h0
  refine ts_Con.of hl (by decide) (Nat.le_of_ble_eq_true rfl) ?_
  intro p e s m args below meth c C
  have H30 : ∀ (z0 : Int) (M : ts_M), wX5_beats_B30   Q z0 M → ts_V p l e (ts_rm 0 0 0) s m args below meth c g 3 0 0 (MQ below (ts_Q g (ts_Ri Q)) args s 0 0 (ts_A g)) 30 [] [ts_v z0] M := by
    intro  z0 M
    unfold wX5_beats_B30
    exact ts_zreti C (Nat.zero_le _) (Nat.zero_le _) dX5_beats_30
  revert h0
  unfold wX5_beats
  have hl0 : lv_args 0 [.ref (ts_ad g 155), ts_v p1, ts_v p2] = [(0, .ref (ts_ad g 155)), (1, ts_v p1), (2, ts_v p2)] := rfl
  rw [hl0]
  refine ts_aload_n C dX5_beats_0 rfl 0 rfl ?_
  refine tgX5_0 C q_353 dX5_beats_1 ?_
  refine ts_iload_n C dX5_beats_4 rfl 1 rfl ?_
  refine ts_bipush C dX5_beats_5 6 tb_6 ?_
  refine ts_imul C dX5_beats_7 ?_
  refine ts_iload_n C dX5_beats_8 rfl 2 rfl ?_
  refine ts_iadd C dX5_beats_9 ?_
  refine ts_iald C (by decide) shG156 dX5_beats_10 ?_
  refine ts_aload_n C dX5_beats_11 rfl 0 rfl ?_
  refine tgX5_0 C q_353 dX5_beats_12 ?_
  refine ts_iload_n C dX5_beats_15 rfl 2 rfl ?_
  refine ts_bipush C dX5_beats_16 6 tb_6 ?_
  refine ts_imul C dX5_beats_18 ?_
  refine ts_iload_n C dX5_beats_19 rfl 1 rfl ?_
  refine ts_iadd C dX5_beats_20 ?_
  refine ts_iald C (by decide) shG156 dX5_beats_21 ?_
  refine ts_cmp_le C rfl rfl 29 dX5_beats_22 rfl ?_ ?_
  · refine ts_iconst C dX5_beats_29 0 rfl ?_
    exact ts_sub [] rfl (H30 _ _)
  · refine ts_iconst C dX5_beats_25 1 rfl ?_
    refine ts_goto C 30 dX5_beats_26 rfl ?_
    exact ts_sub [] rfl (H30 _ _)
def wX5_notBeating_B27  (k4 : Int → Int → Int → ts_M → Prop) (Q : Int → ts_M → Prop)  (y1 : Int) (y2 : Int) (y3 : Int) (M : ts_M) : Prop :=
  (∀ x5 : Int, x5 = y3 + 1 → k4 y1 y2 x5 M)
def wX5_notBeating_L4   (Q : Int → ts_M → Prop) (k4 : Int → Int → Int → ts_M → Prop) (y1 : Int) (y2 : Int) (y3 : Int) (M : ts_M) : Prop :=
  ((ts_w (M.1 155 2) ≤ ts_w y3 → Q y2 M) ∧ (¬ (ts_w (M.1 155 2) ≤ ts_w y3) → (wX5_beats y3 y1 (fun r4 M3 => ((¬ (ts_w r4 = 0) → wX5_notBeating_B27 k4 Q y1 y2 y3 M3) ∧ (ts_w r4 = 0 → (∀ x6 : Int, x6 = ts_or y2 (ts_shl 1 y3) → wX5_notBeating_B27 k4 Q y1 x6 y3 M3)))) M)))
def wX5_notBeating (p1 : Int) (Q : Int → ts_M → Prop) (M : ts_M) : Prop :=
  (∀ x1 : Int, x1 = 0 → (∀ x2 : Int, x2 = 0 → ∃ n, ts_lp3 (wX5_notBeating_L4 Q) n p1 x1 x2 M))
set_option maxRecDepth 100000 in
set_option maxHeartbeats 4000000 in
theorem mX5_notBeating {l : Launch} {g : ts_W} (hl : l.stackTraces = false) {p1 : Int} {Q : Int → ts_M → Prop} {M : ts_M} : wX5_notBeating p1 Q M → ts_Con l g yX5_notBeating cX5_notBeating 4 (some .int) 1 0 0 [.ref (ts_ad g 155), ts_v p1] M (ts_Ri Q) := by
  intro h0
  refine ts_Con.of hl (by decide) (Nat.le_of_ble_eq_true rfl) ?_
  intro p e s m args below meth c C
  have H27 : ∀ (k4 : Int → Int → Int → ts_M → Prop) (hk4 : ∀ (y1 : Int) (y2 : Int) (y3 : Int) (M : ts_M), k4 y1 y2 y3 M → ts_V p l e (ts_rm 1 0 0) s m args below meth c g 4 0 0 (MQ below (ts_Q g (ts_Ri Q)) args s 0 0 (ts_A g)) 4 [(0, .ref (ts_ad g 155)), (1, ts_v y1), (2, ts_v y2), (3, ts_v y3)] [] M) (y1 : Int) (y2 : Int) (y3 : Int) (M : ts_M), wX5_notBeating_B27  k4 Q y1 y2 y3 M → ts_V p l e (ts_rm 1 0 0) s m args below meth c g 4 0 0 (MQ below (ts_Q g (ts_Ri Q)) args s 0 0 (ts_A g)) 27 [(0, .ref (ts_ad g 155)), (1, ts_v y1), (2, ts_v y2), (3, ts_v y3)] [] M := by
    intro k4 hk4 y1 y2 y3 M
    unfold wX5_notBeating_B27
    refine ts_iinc C dX5_notBeating_27 3 rfl (by decide) (lv' := fun x5 => [(3, ts_v x5), (0, .ref (ts_ad g 155)), (1, ts_v y1), (2, ts_v y2)]) (fun _ => rfl) (fun x5 => ?_)
    refine ts_goto C 4 dX5_notBeating_30 rfl ?_
    exact ts_sub [1, 2, 3, 0] rfl (hk4 _ _ _ _)
  have H4 : ∀ (n : Nat) (y1 : Int) (y2 : Int) (y3 : Int) (M : ts_M), ts_lp3 (wX5_notBeating_L4   Q) n y1 y2 y3 M → ts_V p l e (ts_rm 1 0 0) s m args below meth c g 4 0 0 (MQ below (ts_Q g (ts_Ri Q)) args s 0 0 (ts_A g)) 4 [(0, .ref (ts_ad g 155)), (1, ts_v y1), (2, ts_v y2), (3, ts_v y3)] [] M := by
    refine ts_lpr3 (V := fun (y1 : Int) (y2 : Int) (y3 : Int) (M : ts_M) => ts_V p l e (ts_rm 1 0 0) s m args below meth c g 4 0 0 (MQ below (ts_Q g (ts_Ri Q)) args s 0 0 (ts_A g)) 4 [(0, .ref (ts_ad g 155)), (1, ts_v y1), (2, ts_v y2), (3, ts_v y3)] [] M) ?_
    intro k4 hk4 y1 y2 y3 M
    unfold wX5_notBeating_L4
    refine ts_iload_n C dX5_notBeating_4 rfl 3 rfl ?_
    refine ts_aload_n C dX5_notBeating_5 rfl 0 rfl ?_
    refine tgX5_2 C q_355 dX5_notBeating_6 ?_
    refine ts_cmp_ge C rfl rfl 33 dX5_notBeating_9 rfl ?_ ?_
    · refine ts_iload_n C dX5_notBeating_33 rfl 2 rfl ?_
      exact ts_ireti C (Nat.zero_le _) (Nat.zero_le _) dX5_notBeating_34
    · refine ts_aload_n C dX5_notBeating_12 rfl 0 rfl ?_
      refine ts_iload_n C dX5_notBeating_13 rfl 3 rfl ?_
      refine ts_iload_n C dX5_notBeating_14 rfl 1 rfl ?_
      refine ts_callVi C [ts_v y3, ts_v y1] (mX5_beats hl) kX5_beats q_620 (by decide) shX5 rfl rfl rfl (Nat.le_of_ble_eq_true rfl) ⟨Nat.le_of_ble_eq_true rfl, Nat.le_of_ble_eq_true rfl⟩ ⟨Nat.le_of_ble_eq_true rfl, Nat.le_of_ble_eq_true rfl⟩ dX5_notBeating_15 (fun r4 M3 => ?_)
      refine ts_cm0_ne C rfl 27 dX5_notBeating_18 rfl ?_ ?_
      · exact ts_sub [0, 1, 2, 3] rfl (H27 k4 hk4 _ _ _ _)
      · refine ts_iload_n C dX5_notBeating_21 rfl 2 rfl ?_
        refine ts_iconst C dX5_notBeating_22 1 rfl ?_
        refine ts_iload_n C dX5_notBeating_23 rfl 3 rfl ?_
        refine ts_ishl C dX5_notBeating_24 ?_
        refine ts_ior C dX5_notBeating_25 ?_
        refine ts_istore_n C dX5_notBeating_26 rfl (by decide) (lv' := fun x6 => [(2, ts_v x6), (0, .ref (ts_ad g 155)), (1, ts_v y1), (3, ts_v y3)]) (fun _ => rfl) (fun x6 => ?_)
        exact ts_sub [1, 2, 0, 3] rfl (H27 k4 hk4 _ _ _ _)
  revert h0
  unfold wX5_notBeating
  have hl0 : lv_args 0 [.ref (ts_ad g 155), ts_v p1] = [(0, .ref (ts_ad g 155)), (1, ts_v p1)] := rfl
  rw [hl0]
  refine ts_iconst C dX5_notBeating_0 0 rfl ?_
  refine ts_istore_n C dX5_notBeating_1 rfl (by decide) (lv' := fun x1 => [(2, ts_v x1), (0, .ref (ts_ad g 155)), (1, ts_v p1)]) (fun _ => rfl) (fun x1 => ?_)
  refine ts_iconst C dX5_notBeating_2 0 rfl ?_
  refine ts_istore_n C dX5_notBeating_3 rfl (by decide) (lv' := fun x2 => [(3, ts_v x2), (2, ts_v x1), (0, .ref (ts_ad g 155)), (1, ts_v p1)]) (fun _ => rfl) (fun x2 => ?_)
  rintro ⟨n, hn⟩
  exact ts_sub [2, 3, 1, 0] rfl (H4 n _ _ _ _) hn
def wX5_beatsAllOutside_B47  (k2 : Int → Int → ts_M → Prop) (k12 : Int → Int → Int → ts_M → Prop) (Q : Int → ts_M → Prop)  (y1 : Int) (y2 : Int) (y3 : Int) (M : ts_M) : Prop :=
  (∀ x6 : Int, x6 = y3 + 1 → k12 y1 y2 x6 M)
def wX5_beatsAllOutside_L12  (k2 : Int → Int → ts_M → Prop) (Q : Int → ts_M → Prop) (k12 : Int → Int → Int → ts_M → Prop) (y1 : Int) (y2 : Int) (y3 : Int) (M : ts_M) : Prop :=
  ((ts_w (M.1 155 2) ≤ ts_w y3 → (∀ x3 : Int, x3 = y2 + 1 → k2 y1 x3 M)) ∧ (¬ (ts_w (M.1 155 2) ≤ ts_w y3) → (wX5_isIn y2 y1 (fun r5 M4 => ((ts_w r5 = 0 → wX5_beatsAllOutside_B47 k2 k12 Q y1 y2 y3 M4) ∧ (¬ (ts_w r5 = 0) → (wX5_isIn y3 y1 (fun r8 M7 => ((¬ (ts_w r8 = 0) → wX5_beatsAllOutside_B47 k2 k12 Q y1 y2 y3 M7) ∧ (ts_w r8 = 0 → (wX5_beats y2 y3 (fun r10 M9 => ((¬ (ts_w r10 = 0) → wX5_beatsAllOutside_B47 k2 k12 Q y1 y2 y3 M9) ∧ (ts_w r10 = 0 → Q 0 M9))) M7)))) M4)))) M)))
def wX5_beatsAllOutside_L2   (Q : Int → ts_M → Prop) (k2 : Int → Int → ts_M → Prop) (y1 : Int) (y2 : Int) (M : ts_M) : Prop :=
  ((ts_w (M.1 155 2) ≤ ts_w y2 → Q 1 M) ∧ (¬ (ts_w (M.1 155 2) ≤ ts_w y2) → (∀ x2 : Int, x2 = 0 → ∃ n, ts_lp3 (wX5_beatsAllOutside_L12 k2 Q) n y1 y2 x2 M)))
def wX5_beatsAllOutside (p1 : Int) (Q : Int → ts_M → Prop) (M : ts_M) : Prop :=
  (∀ x1 : Int, x1 = 0 → ∃ n, ts_lp2 (wX5_beatsAllOutside_L2 Q) n p1 x1 M)
set_option maxRecDepth 100000 in
set_option maxHeartbeats 4000000 in
theorem mX5_beatsAllOutside {l : Launch} {g : ts_W} (hl : l.stackTraces = false) {p1 : Int} {Q : Int → ts_M → Prop} {M : ts_M} : wX5_beatsAllOutside p1 Q M → ts_Con l g yX5_beatsAllOutside cX5_beatsAllOutside 4 (some .boolean) 1 0 0 [.ref (ts_ad g 155), ts_v p1] M (ts_Ri Q) := by
  intro h0
  refine ts_Con.of hl (by decide) (Nat.le_of_ble_eq_true rfl) ?_
  intro p e s m args below meth c C
  have H47 : ∀ (k2 : Int → Int → ts_M → Prop) (hk2 : ∀ (y1 : Int) (y2 : Int) (M : ts_M), k2 y1 y2 M → ts_V p l e (ts_rm 1 0 0) s m args below meth c g 4 0 0 (MQ below (ts_Q g (ts_Ri Q)) args s 0 0 (ts_A g)) 2 [(0, .ref (ts_ad g 155)), (1, ts_v y1), (2, ts_v y2)] [] M) (k12 : Int → Int → Int → ts_M → Prop) (hk12 : ∀ (y1 : Int) (y2 : Int) (y3 : Int) (M : ts_M), k12 y1 y2 y3 M → ts_V p l e (ts_rm 1 0 0) s m args below meth c g 4 0 0 (MQ below (ts_Q g (ts_Ri Q)) args s 0 0 (ts_A g)) 12 [(0, .ref (ts_ad g 155)), (1, ts_v y1), (2, ts_v y2), (3, ts_v y3)] [] M) (y1 : Int) (y2 : Int) (y3 : Int) (M : ts_M), wX5_beatsAllOutside_B47  k2 k12 Q y1 y2 y3 M → ts_V p l e (ts_rm 1 0 0) s m args below meth c g 4 0 0 (MQ below (ts_Q g (ts_Ri Q)) args s 0 0 (ts_A g)) 47 [(0, .ref (ts_ad g 155)), (1, ts_v y1), (2, ts_v y2), (3, ts_v y3)] [] M := by
    intro k2 hk2 k12 hk12 y1 y2 y3 M
    unfold wX5_beatsAllOutside_B47
    refine ts_iinc C dX5_beatsAllOutside_47 3 rfl (by decide) (lv' := fun x6 => [(3, ts_v x6), (0, .ref (ts_ad g 155)), (1, ts_v y1), (2, ts_v y2)]) (fun _ => rfl) (fun x6 => ?_)
    refine ts_goto C 12 dX5_beatsAllOutside_50 rfl ?_
    exact ts_sub [1, 2, 3, 0] rfl (hk12 _ _ _ _)
  have H12 : ∀ (k2 : Int → Int → ts_M → Prop) (hk2 : ∀ (y1 : Int) (y2 : Int) (M : ts_M), k2 y1 y2 M → ts_V p l e (ts_rm 1 0 0) s m args below meth c g 4 0 0 (MQ below (ts_Q g (ts_Ri Q)) args s 0 0 (ts_A g)) 2 [(0, .ref (ts_ad g 155)), (1, ts_v y1), (2, ts_v y2)] [] M) (n : Nat) (y1 : Int) (y2 : Int) (y3 : Int) (M : ts_M), ts_lp3 (wX5_beatsAllOutside_L12  k2 Q) n y1 y2 y3 M → ts_V p l e (ts_rm 1 0 0) s m args below meth c g 4 0 0 (MQ below (ts_Q g (ts_Ri Q)) args s 0 0 (ts_A g)) 12 [(0, .ref (ts_ad g 155)), (1, ts_v y1), (2, ts_v y2), (3, ts_v y3)] [] M := by
    intro k2 hk2
    refine ts_lpr3 (V := fun (y1 : Int) (y2 : Int) (y3 : Int) (M : ts_M) => ts_V p l e (ts_rm 1 0 0) s m args below meth c g 4 0 0 (MQ below (ts_Q g (ts_Ri Q)) args s 0 0 (ts_A g)) 12 [(0, .ref (ts_ad g 155)), (1, ts_v y1), (2, ts_v y2), (3, ts_v y3)] [] M) ?_
    intro k12 hk12 y1 y2 y3 M
    unfold wX5_beatsAllOutside_L12
    refine ts_iload_n C dX5_beatsAllOutside_12 rfl 3 rfl ?_
    refine ts_aload_n C dX5_beatsAllOutside_13 rfl 0 rfl ?_
    refine tgX5_2 C q_355 dX5_beatsAllOutside_14 ?_
    refine ts_cmp_ge C rfl rfl 53 dX5_beatsAllOutside_17 rfl ?_ ?_
    · refine ts_iinc C dX5_beatsAllOutside_53 2 rfl (by decide) (lv' := fun x3 => [(2, ts_v x3), (0, .ref (ts_ad g 155)), (1, ts_v y1), (3, ts_v y3)]) (fun _ => rfl) (fun x3 => ?_)
      refine ts_goto C 2 dX5_beatsAllOutside_56 rfl ?_
      exact ts_sub [1, 2, 0] rfl (hk2 _ _ _)
    · refine ts_iload_n C dX5_beatsAllOutside_20 rfl 2 rfl ?_
      refine ts_iload_n C dX5_beatsAllOutside_21 rfl 1 rfl ?_
      refine ts_callSi C [ts_v y2, ts_v y1] (mX5_isIn hl) kX5_isIn q_506 rfl rfl (Nat.le_of_ble_eq_true rfl) ⟨Nat.le_of_ble_eq_true rfl, Nat.le_of_ble_eq_true rfl⟩ ⟨Nat.le_of_ble_eq_true rfl, Nat.le_of_ble_eq_true rfl⟩ dX5_beatsAllOutside_22 (fun r5 M4 => ?_)
      refine ts_cm0_eq C rfl 47 dX5_beatsAllOutside_25 rfl ?_ ?_
      · exact ts_sub [0, 1, 2, 3] rfl (H47 k2 hk2 k12 hk12 _ _ _ _)
      · refine ts_iload_n C dX5_beatsAllOutside_28 rfl 3 rfl ?_
        refine ts_iload_n C dX5_beatsAllOutside_29 rfl 1 rfl ?_
        refine ts_callSi C [ts_v y3, ts_v y1] (mX5_isIn hl) kX5_isIn q_506 rfl rfl (Nat.le_of_ble_eq_true rfl) ⟨Nat.le_of_ble_eq_true rfl, Nat.le_of_ble_eq_true rfl⟩ ⟨Nat.le_of_ble_eq_true rfl, Nat.le_of_ble_eq_true rfl⟩ dX5_beatsAllOutside_30 (fun r8 M7 => ?_)
        refine ts_cm0_ne C rfl 47 dX5_beatsAllOutside_33 rfl ?_ ?_
        · exact ts_sub [0, 1, 2, 3] rfl (H47 k2 hk2 k12 hk12 _ _ _ _)
        · refine ts_aload_n C dX5_beatsAllOutside_36 rfl 0 rfl ?_
          refine ts_iload_n C dX5_beatsAllOutside_37 rfl 2 rfl ?_
          refine ts_iload_n C dX5_beatsAllOutside_38 rfl 3 rfl ?_
          refine ts_callVi C [ts_v y2, ts_v y3] (mX5_beats hl) kX5_beats q_620 (by decide) shX5 rfl rfl rfl (Nat.le_of_ble_eq_true rfl) ⟨Nat.le_of_ble_eq_true rfl, Nat.le_of_ble_eq_true rfl⟩ ⟨Nat.le_of_ble_eq_true rfl, Nat.le_of_ble_eq_true rfl⟩ dX5_beatsAllOutside_39 (fun r10 M9 => ?_)
          refine ts_cm0_ne C rfl 47 dX5_beatsAllOutside_42 rfl ?_ ?_
          · exact ts_sub [0, 1, 2, 3] rfl (H47 k2 hk2 k12 hk12 _ _ _ _)
          · refine ts_iconst C dX5_beatsAllOutside_45 0 rfl ?_
            exact ts_zretci C (by decide) (Nat.zero_le _) (Nat.zero_le _) dX5_beatsAllOutside_46
  have H2 : ∀ (n : Nat) (y1 : Int) (y2 : Int) (M : ts_M), ts_lp2 (wX5_beatsAllOutside_L2   Q) n y1 y2 M → ts_V p l e (ts_rm 1 0 0) s m args below meth c g 4 0 0 (MQ below (ts_Q g (ts_Ri Q)) args s 0 0 (ts_A g)) 2 [(0, .ref (ts_ad g 155)), (1, ts_v y1), (2, ts_v y2)] [] M := by
    refine ts_lpr2 (V := fun (y1 : Int) (y2 : Int) (M : ts_M) => ts_V p l e (ts_rm 1 0 0) s m args below meth c g 4 0 0 (MQ below (ts_Q g (ts_Ri Q)) args s 0 0 (ts_A g)) 2 [(0, .ref (ts_ad g 155)), (1, ts_v y1), (2, ts_v y2)] [] M) ?_
    intro k2 hk2 y1 y2 M
    unfold wX5_beatsAllOutside_L2
    refine ts_iload_n C dX5_beatsAllOutside_2 rfl 2 rfl ?_
    refine ts_aload_n C dX5_beatsAllOutside_3 rfl 0 rfl ?_
    refine tgX5_2 C q_355 dX5_beatsAllOutside_4 ?_
    refine ts_cmp_ge C rfl rfl 59 dX5_beatsAllOutside_7 rfl ?_ ?_
    · refine ts_iconst C dX5_beatsAllOutside_59 1 rfl ?_
      exact ts_zretci C (by decide) (Nat.zero_le _) (Nat.zero_le _) dX5_beatsAllOutside_60
    · refine ts_iconst C dX5_beatsAllOutside_10 0 rfl ?_
      refine ts_istore_n C dX5_beatsAllOutside_11 rfl (by decide) (lv' := fun x2 => [(3, ts_v x2), (0, .ref (ts_ad g 155)), (1, ts_v y1), (2, ts_v y2)]) (fun _ => rfl) (fun x2 => ?_)
      rintro ⟨n, hn⟩
      exact ts_sub [1, 2, 3, 0] rfl (H12 k2 hk2 n _ _ _ _) hn
  revert h0
  unfold wX5_beatsAllOutside
  have hl0 : lv_args 0 [.ref (ts_ad g 155), ts_v p1] = [(0, .ref (ts_ad g 155)), (1, ts_v p1)] := rfl
  rw [hl0]
  refine ts_iconst C dX5_beatsAllOutside_0 0 rfl ?_
  refine ts_istore_n C dX5_beatsAllOutside_1 rfl (by decide) (lv' := fun x1 => [(2, ts_v x1), (0, .ref (ts_ad g 155)), (1, ts_v p1)]) (fun _ => rfl) (fun x1 => ?_)
  rintro ⟨n, hn⟩
  exact ts_sub [1, 2, 0] rfl (H2 n _ _ _) hn
def wX7_isFull_B14   (Q : Int → ts_M → Prop)  (z0 : Int) (M : ts_M) : Prop :=
  ((ts_w z0 = 0 ∨ ts_w z0 = 1) ∧ Q z0 M)
def wX7_isFull (Q : Int → ts_M → Prop) (M : ts_M) : Prop :=
  ((ts_w (M.1 160 3) < 60 → wX7_isFull_B14 Q 0 M) ∧ (¬ (ts_w (M.1 160 3) < 60) → wX7_isFull_B14 Q 1 M))
set_option maxRecDepth 100000 in
set_option maxHeartbeats 4000000 in
theorem mX7_isFull {l : Launch} {g : ts_W} (hl : l.stackTraces = false) {Q : Int → ts_M → Prop} {M : ts_M} : wX7_isFull Q M → ts_Con l g yX7_isFull cX7_isFull 1 (some .boolean) 0 0 0 [.ref (ts_ad g 160)] M (ts_Ri Q) := by
  intro h0
  refine ts_Con.of hl (by decide) (Nat.le_of_ble_eq_true rfl) ?_
  intro p e s m args below meth c C
  have H14 : ∀ (z0 : Int) (M : ts_M), wX7_isFull_B14   Q z0 M → ts_V p l e (ts_rm 0 0 0) s m args below meth c g 1 0 0 (MQ below (ts_Q g (ts_Ri Q)) args s 0 0 (ts_A g)) 14 [] [ts_v z0] M := by
    intro  z0 M
    unfold wX7_isFull_B14
    exact ts_zreti C (Nat.zero_le _) (Nat.zero_le _) dX7_isFull_14
  revert h0
  unfold wX7_isFull
  have hl0 : lv_args 0 [.ref (ts_ad g 160)] = [(0, .ref (ts_ad g 160))] := rfl
  rw [hl0]
  refine ts_aload_n C dX7_isFull_0 rfl 0 rfl ?_
  refine tgX7_3 C q_374 dX7_isFull_1 ?_
  refine ts_bipush C dX7_isFull_4 60 tb_60 ?_
  refine ts_cmp_lt C rfl tw_60 13 dX7_isFull_6 rfl ?_ ?_
  · refine ts_iconst C dX7_isFull_13 0 rfl ?_
    exact ts_sub [] rfl (H14 _ _)
  · refine ts_iconst C dX7_isFull_9 1 rfl ?_
    refine ts_goto C 14 dX7_isFull_10 rfl ?_
    exact ts_sub [] rfl (H14 _ _)
def wX7_add_B29   (Q : Int → ts_M → Prop)   (M : ts_M) : Prop :=
  Q (M.1 160 3) M
def wX7_add (p1 : Int) (Q : Int → ts_M → Prop) (M : ts_M) : Prop :=
  ((60 ≤ ts_w (M.1 160 3) → wX7_add_B29 Q M) ∧ (¬ (60 ≤ ts_w (M.1 160 3)) → ((0 ≤ ts_w (M.1 160 3) ∧ ts_w (M.1 160 3) < ((60 : Nat) : Int)) ∧ ∀ M1, M1 = ts_si M 161 (ts_w (M.1 160 3)) (ts_nar .char p1) → (∀ M2, M2 = ts_si M1 160 3 ((M1.1 160 3) + 1) → wX7_add_B29 Q M2))))
set_option maxRecDepth 100000 in
set_option maxHeartbeats 4000000 in
theorem mX7_add {l : Launch} {g : ts_W} (hl : l.stackTraces = false) {p1 : Int} {Q : Int → ts_M → Prop} {M : ts_M} : wX7_add p1 Q M → ts_Con l g yX7_add cX7_add 2 (some .int) 0 0 0 [.ref (ts_ad g 160), ts_v p1] M (ts_Ri Q) := by
  intro h0
  refine ts_Con.of hl (by decide) (Nat.le_of_ble_eq_true rfl) ?_
  intro p e s m args below meth c C
  have H29 : ∀  (M : ts_M), wX7_add_B29   Q  M → ts_V p l e (ts_rm 0 0 0) s m args below meth c g 2 0 0 (MQ below (ts_Q g (ts_Ri Q)) args s 0 0 (ts_A g)) 29 [(0, .ref (ts_ad g 160))] [] M := by
    intro   M
    unfold wX7_add_B29
    refine ts_aload_n C dX7_add_29 rfl 0 rfl ?_
    refine tgX7_3 C q_374 dX7_add_30 ?_
    exact ts_ireti C (Nat.zero_le _) (Nat.zero_le _) dX7_add_33
  revert h0
  unfold wX7_add
  have hl0 : lv_args 0 [.ref (ts_ad g 160), ts_v p1] = [(0, .ref (ts_ad g 160)), (1, ts_v p1)] := rfl
  rw [hl0]
  refine ts_aload_n C dX7_add_0 rfl 0 rfl ?_
  refine tgX7_3 C q_374 dX7_add_1 ?_
  refine ts_bipush C dX7_add_4 60 tb_60 ?_
  refine ts_cmp_ge C rfl tw_60 29 dX7_add_6 rfl ?_ ?_
  · exact ts_sub [0] rfl (H29 _)
  · refine ts_aload_n C dX7_add_9 rfl 0 rfl ?_
    refine tgX7_0 C q_371 dX7_add_10 ?_
    refine ts_aload_n C dX7_add_13 rfl 0 rfl ?_
    refine tgX7_3 C q_374 dX7_add_14 ?_
    refine ts_iload_n C dX7_add_17 rfl 1 rfl ?_
    refine ts_cast C (by decide) shG161 dX7_add_18 (fun M1 => ?_)
    refine ts_aload_n C dX7_add_19 rfl 0 rfl ?_
    refine ts_dup C dX7_add_20 rfl ?_
    refine tgX7_3 C q_374 dX7_add_21 ?_
    refine ts_iconst C dX7_add_24 1 rfl ?_
    refine ts_iadd C dX7_add_25 ?_
    refine tpX7_3 C q_374 dX7_add_26 (fun M2 => ?_)
    exact ts_sub [0] rfl (H29 _)
def wX7_emptyBuffer (Q : ts_M → Prop) (M : ts_M) : Prop :=
  (∀ M1, M1 = ts_si M 160 3 0 → Q M1)
set_option maxRecDepth 100000 in
set_option maxHeartbeats 4000000 in
theorem mX7_emptyBuffer {l : Launch} {g : ts_W} (hl : l.stackTraces = false) {Q : ts_M → Prop} {M : ts_M} : wX7_emptyBuffer Q M → ts_Con l g yX7_emptyBuffer cX7_emptyBuffer 1 none 0 0 0 [.ref (ts_ad g 160)] M (ts_Rv Q) := by
  intro h0
  refine ts_Con.of hl (by decide) (Nat.le_of_ble_eq_true rfl) ?_
  intro p e s m args below meth c C
  revert h0
  unfold wX7_emptyBuffer
  have hl0 : lv_args 0 [.ref (ts_ad g 160)] = [(0, .ref (ts_ad g 160))] := rfl
  rw [hl0]
  refine ts_aload_n C dX7_emptyBuffer_0 rfl 0 rfl ?_
  refine ts_iconst C dX7_emptyBuffer_1 0 rfl ?_
  refine tpX7_3 C q_374 dX7_emptyBuffer_2 (fun M1 => ?_)
  exact ts_vreti C (Nat.zero_le _) (Nat.zero_le _) dX7_emptyBuffer_5
def wX7_argumentAt_B29   (Q : Int → ts_M → Prop)  (z0 : Int) (M : ts_M) : Prop :=
  Q z0 M
def wX7_argumentAt_B28   (Q : Int → ts_M → Prop)   (M : ts_M) : Prop :=
  wX7_argumentAt_B29 Q 0 M
def wX7_argumentAt (p1 : Int) (p2 : Int) (Q : Int → ts_M → Prop) (M : ts_M) : Prop :=
  (∀ x1 : Int, x1 = (p1 * 3) + p2 → ((ts_w x1 < 0 → wX7_argumentAt_B28 Q M) ∧ (¬ (ts_w x1 < 0) → ((ts_w ((36 : Nat) : Int) ≤ ts_w x1 → wX7_argumentAt_B28 Q M) ∧ (¬ (ts_w ((36 : Nat) : Int) ≤ ts_w x1) → ((0 ≤ ts_w x1 ∧ ts_w x1 < ((36 : Nat) : Int)) ∧ wX7_argumentAt_B29 Q (M.1 163 (ts_w x1)) M))))))
set_option maxRecDepth 100000 in
set_option maxHeartbeats 4000000 in
theorem mX7_argumentAt {l : Launch} {g : ts_W} (hl : l.stackTraces = false) {p1 : Int} {p2 : Int} {Q : Int → ts_M → Prop} {M : ts_M} : wX7_argumentAt p1 p2 Q M → ts_Con l g yX7_argumentAt cX7_argumentAt 4 (some .int) 0 0 0 [.ref (ts_ad g 160), ts_v p1, ts_v p2] M (ts_Ri Q) := by
  intro h0
  refine ts_Con.of hl (by decide) (Nat.le_of_ble_eq_true rfl) ?_
  intro p e s m args below meth c C
  have H29 : ∀ (z0 : Int) (M : ts_M), wX7_argumentAt_B29   Q z0 M → ts_V p l e (ts_rm 0 0 0) s m args below meth c g 4 0 0 (MQ below (ts_Q g (ts_Ri Q)) args s 0 0 (ts_A g)) 29 [] [ts_v z0] M := by
    intro  z0 M
    unfold wX7_argumentAt_B29
    exact ts_ireti C (Nat.zero_le _) (Nat.zero_le _) dX7_argumentAt_29
  have H28 : ∀  (M : ts_M), wX7_argumentAt_B28   Q  M → ts_V p l e (ts_rm 0 0 0) s m args below meth c g 4 0 0 (MQ below (ts_Q g (ts_Ri Q)) args s 0 0 (ts_A g)) 28 [] [] M := by
    intro   M
    unfold wX7_argumentAt_B28
    refine ts_iconst C dX7_argumentAt_28 0 rfl ?_
    exact ts_sub [] rfl (H29 _ _)
  revert h0
  unfold wX7_argumentAt
  have hl0 : lv_args 0 [.ref (ts_ad g 160), ts_v p1, ts_v p2] = [(0, .ref (ts_ad g 160)), (1, ts_v p1), (2, ts_v p2)] := rfl
  rw [hl0]
  refine ts_iload_n C dX7_argumentAt_0 rfl 1 rfl ?_
  refine ts_iconst C dX7_argumentAt_1 3 rfl ?_
  refine ts_imul C dX7_argumentAt_2 ?_
  refine ts_iload_n C dX7_argumentAt_3 rfl 2 rfl ?_
  refine ts_iadd C dX7_argumentAt_4 ?_
  refine ts_istore_n C dX7_argumentAt_5 rfl (by decide) (lv' := fun x1 => [(3, ts_v x1), (0, .ref (ts_ad g 160)), (1, ts_v p1), (2, ts_v p2)]) (fun _ => rfl) (fun x1 => ?_)
  refine ts_iload_n C dX7_argumentAt_6 rfl 0 rfl ?_
  refine ts_cm0_lt C rfl 28 dX7_argumentAt_7 rfl ?_ ?_
  · exact ts_sub [] rfl (H28 _)
  · refine ts_iload_n C dX7_argumentAt_10 rfl 0 rfl ?_
    refine ts_aload_n C dX7_argumentAt_11 rfl 1 rfl ?_
    refine tgX7_2 C q_373 dX7_argumentAt_12 ?_
    refine ts_alenI C (by decide) shG163 dX7_argumentAt_15 ?_
    refine ts_cmp_ge C rfl rfl 28 dX7_argumentAt_16 rfl ?_ ?_
    · exact ts_sub [] rfl (H28 _)
    · refine ts_aload_n C dX7_argumentAt_19 rfl 1 rfl ?_
      refine tgX7_2 C q_373 dX7_argumentAt_20 ?_
      refine ts_iload_n C dX7_argumentAt_23 rfl 0 rfl ?_
      refine ts_iald C (by decide) shG163 dX7_argumentAt_24 ?_
      refine ts_goto C 29 dX7_argumentAt_25 rfl ?_
      exact ts_sub [] rfl (H29 _ _)
def wX7_take_B24   (Q : Int → ts_M → Prop)   (M : ts_M) : Prop :=
  Q 0 M
def wX7_take (p1 : Int) (Q : Int → ts_M → Prop) (M : ts_M) : Prop :=
  ((ts_w (M.1 160 3) ≤ ts_w (M.1 160 5) → wX7_take_B24 Q M) ∧ (¬ (ts_w (M.1 160 3) ≤ ts_w (M.1 160 5)) → ((0 ≤ ts_w (M.1 160 5) ∧ ts_w (M.1 160 5) < ((60 : Nat) : Int)) ∧ ((ts_w (M.1 161 (ts_w (M.1 160 5))) = ts_w p1 → (∀ M1, M1 = ts_si M 160 5 ((M.1 160 5) + 1) → Q 1 M1)) ∧ (¬ (ts_w (M.1 161 (ts_w (M.1 160 5))) = ts_w p1) → wX7_take_B24 Q M)))))
set_option maxRecDepth 100000 in
set_option maxHeartbeats 4000000 in
theorem mX7_take {l : Launch} {g : ts_W} (hl : l.stackTraces = false) {p1 : Int} {Q : Int → ts_M → Prop} {M : ts_M} : wX7_take p1 Q M → ts_Con l g yX7_take cX7_take 2 (some .boolean) 0 0 0 [.ref (ts_ad g 160), ts_v p1] M (ts_Ri Q) := by
  intro h0
  refine ts_Con.of hl (by decide) (Nat.le_of_ble_eq_true rfl) ?_
  intro p e s m args below meth c C
  have H24 : ∀  (M : ts_M), wX7_take_B24   Q  M → ts_V p l e (ts_rm 0 0 0) s m args below meth c g 2 0 0 (MQ below (ts_Q g (ts_Ri Q)) args s 0 0 (ts_A g)) 24 [] [] M := by
    intro   M
    unfold wX7_take_B24
    refine ts_iconst C dX7_take_24 0 rfl ?_
    exact ts_zretci C (by decide) (Nat.zero_le _) (Nat.zero_le _) dX7_take_25
  revert h0
  unfold wX7_take
  have hl0 : lv_args 0 [.ref (ts_ad g 160), ts_v p1] = [(0, .ref (ts_ad g 160)), (1, ts_v p1)] := rfl
  rw [hl0]
  refine ts_aload_n C dX7_take_0 rfl 0 rfl ?_
  refine tgX7_5 C q_377 dX7_take_1 ?_
  refine ts_aload_n C dX7_take_4 rfl 0 rfl ?_
  refine tgX7_3 C q_374 dX7_take_5 ?_
  refine ts_cmp_ge C rfl rfl 24 dX7_take_8 rfl ?_ ?_
  · exact ts_sub [] rfl (H24 _)
  · refine ts_aload_n C dX7_take_11 rfl 0 rfl ?_
    refine tgX7_0 C q_371 dX7_take_12 ?_
    refine ts_aload_n C dX7_take_15 rfl 0 rfl ?_
    refine tgX7_5 C q_377 dX7_take_16 ?_
    refine ts_cald C (by decide) shG161 dX7_take_19 ?_
    refine ts_iload_n C dX7_take_20 rfl 1 rfl ?_
    refine ts_cmp_eq C rfl rfl 26 dX7_take_21 rfl ?_ ?_
    · refine ts_aload_n C dX7_take_26 rfl 0 rfl ?_
      refine ts_dup C dX7_take_27 rfl ?_
      refine tgX7_5 C q_377 dX7_take_28 ?_
      refine ts_iconst C dX7_take_31 1 rfl ?_
      refine ts_iadd C dX7_take_32 ?_
      refine tpX7_5 C q_377 dX7_take_33 (fun M1 => ?_)
      refine ts_iconst C dX7_take_36 1 rfl ?_
      exact ts_zretci C (by decide) (Nat.zero_le _) (Nat.zero_le _) dX7_take_37
    · exact ts_sub [] rfl (H24 _)
def wX7_keepArgument_B42   (Q : ts_M → Prop)   (M : ts_M) : Prop :=
  Q M
def wX7_keepArgument (p1 : Int) (Q : ts_M → Prop) (M : ts_M) : Prop :=
  (∀ x1 : Int, x1 = ((M.1 160 4) * 3) + (M.1 160 6) → ((ts_w x1 < 0 → wX7_keepArgument_B42 Q M) ∧ (¬ (ts_w x1 < 0) → ((ts_w ((36 : Nat) : Int) ≤ ts_w x1 → wX7_keepArgument_B42 Q M) ∧ (¬ (ts_w ((36 : Nat) : Int) ≤ ts_w x1) → ((0 ≤ ts_w x1 ∧ ts_w x1 < ((36 : Nat) : Int)) ∧ ∀ M2, M2 = ts_si M 163 (ts_w x1) p1 → (∀ M3, M3 = ts_si M2 160 6 ((M2.1 160 6) + 1) → wX7_keepArgument_B42 Q M3)))))))
set_option maxRecDepth 100000 in
set_option maxHeartbeats 4000000 in
theorem mX7_keepArgument {l : Launch} {g : ts_W} (hl : l.stackTraces = false) {p1 : Int} {Q : ts_M → Prop} {M : ts_M} : wX7_keepArgument p1 Q M → ts_Con l g yX7_keepArgument cX7_keepArgument 3 none 0 0 0 [.ref (ts_ad g 160), ts_v p1] M (ts_Rv Q) := by
  intro h0
  refine ts_Con.of hl (by decide) (Nat.le_of_ble_eq_true rfl) ?_
  intro p e s m args below meth c C
  have H42 : ∀  (M : ts_M), wX7_keepArgument_B42   Q  M → ts_V p l e (ts_rm 0 0 0) s m args below meth c g 3 0 0 (MQ below (ts_Q g (ts_Rv Q)) args s 0 0 (ts_A g)) 42 [] [] M := by
    intro   M
    unfold wX7_keepArgument_B42
    exact ts_vreti C (Nat.zero_le _) (Nat.zero_le _) dX7_keepArgument_42
  revert h0
  unfold wX7_keepArgument
  have hl0 : lv_args 0 [.ref (ts_ad g 160), ts_v p1] = [(0, .ref (ts_ad g 160)), (1, ts_v p1)] := rfl
  rw [hl0]
  refine ts_aload_n C dX7_keepArgument_0 rfl 0 rfl ?_
  refine tgX7_4 C q_375 dX7_keepArgument_1 ?_
  refine ts_iconst C dX7_keepArgument_4 3 rfl ?_
  refine ts_imul C dX7_keepArgument_5 ?_
  refine ts_aload_n C dX7_keepArgument_6 rfl 0 rfl ?_
  refine tgX7_6 C q_378 dX7_keepArgument_7 ?_
  refine ts_iadd C dX7_keepArgument_10 ?_
  refine ts_istore_n C dX7_keepArgument_11 rfl (by decide) (lv' := fun x1 => [(2, ts_v x1), (0, .ref (ts_ad g 160)), (1, ts_v p1)]) (fun _ => rfl) (fun x1 => ?_)
  refine ts_iload_n C dX7_keepArgument_12 rfl 0 rfl ?_
  refine ts_cm0_lt C rfl 42 dX7_keepArgument_13 rfl ?_ ?_
  · exact ts_sub [] rfl (H42 _)
  · refine ts_iload_n C dX7_keepArgument_16 rfl 0 rfl ?_
    refine ts_aload_n C dX7_keepArgument_17 rfl 1 rfl ?_
    refine tgX7_2 C q_373 dX7_keepArgument_18 ?_
    refine ts_alenI C (by decide) shG163 dX7_keepArgument_21 ?_
    refine ts_cmp_ge C rfl rfl 42 dX7_keepArgument_22 rfl ?_ ?_
    · exact ts_sub [] rfl (H42 _)
    · refine ts_aload_n C dX7_keepArgument_25 rfl 1 rfl ?_
      refine tgX7_2 C q_373 dX7_keepArgument_26 ?_
      refine ts_iload_n C dX7_keepArgument_29 rfl 0 rfl ?_
      refine ts_iload_n C dX7_keepArgument_30 rfl 2 rfl ?_
      refine ts_iast C (by decide) shG163 dX7_keepArgument_31 (fun M2 => ?_)
      refine ts_aload_n C dX7_keepArgument_32 rfl 1 rfl ?_
      refine ts_dup C dX7_keepArgument_33 rfl ?_
      refine tgX7_6 C q_378 dX7_keepArgument_34 ?_
      refine ts_iconst C dX7_keepArgument_37 1 rfl ?_
      refine ts_iadd C dX7_keepArgument_38 ?_
      refine tpX7_6 C q_378 dX7_keepArgument_39 (fun M3 => ?_)
      exact ts_sub [] rfl (H42 _)
def wX8_has_B17 (b : Nat)  (Q : Int → ts_M → Prop)  (z0 : Int) (M : ts_M) : Prop :=
  ((ts_w z0 = 0 ∨ ts_w z0 = 1) ∧ Q z0 M)
def wX8_has_B16 (b : Nat)  (Q : Int → ts_M → Prop)   (M : ts_M) : Prop :=
  wX8_has_B17 b Q 0 M
def wX8_has (b : Nat) (p1 : Int) (Q : Int → ts_M → Prop) (M : ts_M) : Prop :=
  ((ts_w p1 < 0 → wX8_has_B16 b Q M) ∧ (¬ (ts_w p1 < 0) → ((ts_w (M.1 (b + 1) 4) ≤ ts_w p1 → wX8_has_B16 b Q M) ∧ (¬ (ts_w (M.1 (b + 1) 4) ≤ ts_w p1) → wX8_has_B17 b Q 1 M))))
set_option maxRecDepth 100000 in
set_option maxHeartbeats 4000000 in
theorem mX8_has {l : Launch} {g : ts_W} (hl : l.stackTraces = false) {b : Nat} (hb : ts_isS b) {p1 : Int} {Q : Int → ts_M → Prop} {M : ts_M} : wX8_has b p1 Q M → ts_Con l g yX8_has cX8_has 2 (some .boolean) 0 0 0 [.ref (ts_ad g (b + 1)), ts_v p1] M (ts_Ri Q) := by
  intro h0
  refine ts_Con.of hl (by decide) (Nat.le_of_ble_eq_true rfl) ?_
  intro p e s m args below meth c C
  have H17 : ∀ (z0 : Int) (M : ts_M), wX8_has_B17 b  Q z0 M → ts_V p l e (ts_rm 0 0 0) s m args below meth c g 2 0 0 (MQ below (ts_Q g (ts_Ri Q)) args s 0 0 (ts_A g)) 17 [] [ts_v z0] M := by
    intro  z0 M
    unfold wX8_has_B17
    exact ts_zreti C (Nat.zero_le _) (Nat.zero_le _) dX8_has_17
  have H16 : ∀  (M : ts_M), wX8_has_B16 b  Q  M → ts_V p l e (ts_rm 0 0 0) s m args below meth c g 2 0 0 (MQ below (ts_Q g (ts_Ri Q)) args s 0 0 (ts_A g)) 16 [] [] M := by
    intro   M
    unfold wX8_has_B16
    refine ts_iconst C dX8_has_16 0 rfl ?_
    exact ts_sub [] rfl (H17 _ _)
  revert h0
  unfold wX8_has
  have hl0 : lv_args 0 [.ref (ts_ad g (b + 1)), ts_v p1] = [(0, .ref (ts_ad g (b + 1))), (1, ts_v p1)] := rfl
  rw [hl0]
  refine ts_iload_n C dX8_has_0 rfl 1 rfl ?_
  refine ts_cm0_lt C rfl 16 dX8_has_1 rfl ?_ ?_
  · exact ts_sub [] rfl (H16 _)
  · refine ts_iload_n C dX8_has_4 rfl 1 rfl ?_
    refine ts_aload_n C dX8_has_5 rfl 0 rfl ?_
    refine tgX8_4 hb C q_190 dX8_has_6 ?_
    refine ts_cmp_ge C rfl rfl 16 dX8_has_9 rfl ?_ ?_
    · exact ts_sub [] rfl (H16 _)
    · refine ts_iconst C dX8_has_12 1 rfl ?_
      refine ts_goto C 17 dX8_has_13 rfl ?_
      exact ts_sub [] rfl (H17 _ _)
def wX8_add (b : Nat) (p1 : Int) (p2 : Int) (Q : Int → ts_M → Prop) (M : ts_M) : Prop :=
  ((ts_w (M.1 (b + 1) 4) < 8 → ((0 ≤ ts_w (M.1 (b + 1) 4) ∧ ts_w (M.1 (b + 1) 4) < ((8 : Nat) : Int)) ∧ ∀ M1, M1 = ts_si M (b + 2) (ts_w (M.1 (b + 1) 4)) p1 → ((0 ≤ ts_w (M1.1 (b + 1) 4) ∧ ts_w (M1.1 (b + 1) 4) < ((8 : Nat) : Int)) ∧ ∀ M2, M2 = ts_si M1 (b + 3) (ts_w (M1.1 (b + 1) 4)) p2 → ((0 ≤ ts_w (M2.1 (b + 1) 4) ∧ ts_w (M2.1 (b + 1) 4) < ((8 : Nat) : Int)) ∧ ∀ M3, M3 = ts_si M2 (b + 4) (ts_w (M2.1 (b + 1) 4)) 5 → ((0 ≤ ts_w (M3.1 (b + 1) 4) ∧ ts_w (M3.1 (b + 1) 4) < ((8 : Nat) : Int)) ∧ ∀ M4, M4 = ts_si M3 (b + 5) (ts_w (M3.1 (b + 1) 4)) 0 → (∀ M5, M5 = ts_si M4 (b + 1) 4 ((M4.1 (b + 1) 4) + 1) → Q ((M5.1 (b + 1) 4) - 1) M5)))))) ∧ (¬ (ts_w (M.1 (b + 1) 4) < 8) → Q (-1) M))
set_option maxRecDepth 100000 in
set_option maxHeartbeats 4000000 in
theorem mX8_add {l : Launch} {g : ts_W} (hl : l.stackTraces = false) {b : Nat} (hb : ts_isS b) {p1 : Int} {p2 : Int} {Q : Int → ts_M → Prop} {M : ts_M} : wX8_add b p1 p2 Q M → ts_Con l g yX8_add cX8_add 3 (some .int) 0 0 0 [.ref (ts_ad g (b + 1)), ts_v p1, ts_v p2] M (ts_Ri Q) := by
  intro h0
  refine ts_Con.of hl (by decide) (Nat.le_of_ble_eq_true rfl) ?_
  intro p e s m args below meth c C
  revert h0
  unfold wX8_add
  have hl0 : lv_args 0 [.ref (ts_ad g (b + 1)), ts_v p1, ts_v p2] = [(0, .ref (ts_ad g (b + 1))), (1, ts_v p1), (2, ts_v p2)] := rfl
  rw [hl0]
  refine ts_aload_n C dX8_add_0 rfl 0 rfl ?_
  refine tgX8_4 hb C q_190 dX8_add_1 ?_
  refine ts_bipush C dX8_add_4 8 tb_8 ?_
  refine ts_cmp_lt C rfl tw_8 11 dX8_add_6 rfl ?_ ?_
  · refine ts_aload_n C dX8_add_11 rfl 0 rfl ?_
    refine tgX8_0 hb C q_178 dX8_add_12 ?_
    refine ts_aload_n C dX8_add_15 rfl 0 rfl ?_
    refine tgX8_4 hb C q_190 dX8_add_16 ?_
    refine ts_iload_n C dX8_add_19 rfl 1 rfl ?_
    refine ts_iast C (ts_lt hb 2 (by decide)) (shS2 hb) dX8_add_20 (fun M1 => ?_)
    refine ts_aload_n C dX8_add_21 rfl 0 rfl ?_
    refine tgX8_1 hb C q_181 dX8_add_22 ?_
    refine ts_aload_n C dX8_add_25 rfl 0 rfl ?_
    refine tgX8_4 hb C q_190 dX8_add_26 ?_
    refine ts_iload_n C dX8_add_29 rfl 2 rfl ?_
    refine ts_iast C (ts_lt hb 3 (by decide)) (shS3 hb) dX8_add_30 (fun M2 => ?_)
    refine ts_aload_n C dX8_add_31 rfl 0 rfl ?_
    refine tgX8_2 hb C q_184 dX8_add_32 ?_
    refine ts_aload_n C dX8_add_35 rfl 0 rfl ?_
    refine tgX8_4 hb C q_190 dX8_add_36 ?_
    refine ts_iconst C dX8_add_39 5 rfl ?_
    refine ts_iast C (ts_lt hb 4 (by decide)) (shS4 hb) dX8_add_40 (fun M3 => ?_)
    refine ts_aload_n C dX8_add_41 rfl 0 rfl ?_
    refine tgX8_3 hb C q_187 dX8_add_42 ?_
    refine ts_aload_n C dX8_add_45 rfl 0 rfl ?_
    refine tgX8_4 hb C q_190 dX8_add_46 ?_
    refine ts_iconst C dX8_add_49 0 rfl ?_
    refine ts_iast C (ts_lt hb 5 (by decide)) (shS5 hb) dX8_add_50 (fun M4 => ?_)
    refine ts_aload_n C dX8_add_51 rfl 0 rfl ?_
    refine ts_dup C dX8_add_52 rfl ?_
    refine tgX8_4 hb C q_190 dX8_add_53 ?_
    refine ts_iconst C dX8_add_56 1 rfl ?_
    refine ts_iadd C dX8_add_57 ?_
    refine tpX8_4 hb C q_190 dX8_add_58 (fun M5 => ?_)
    refine ts_aload_n C dX8_add_61 rfl 0 rfl ?_
    refine tgX8_4 hb C q_190 dX8_add_62 ?_
    refine ts_iconst C dX8_add_65 1 rfl ?_
    refine ts_isub C dX8_add_66 ?_
    exact ts_ireti C (Nat.zero_le _) (Nat.zero_le _) dX8_add_67
  · refine ts_iconst C dX8_add_9 (-1) rfl ?_
    exact ts_ireti C (Nat.zero_le _) (Nat.zero_le _) dX8_add_10
def wX8_letSpeak (b : Nat) (p1 : Int) (Q : Int → ts_M → Prop) (M : ts_M) : Prop :=
  (wX8_has b p1 (fun r2 M1 => ((¬ (ts_w r2 = 0) → ((0 ≤ ts_w p1 ∧ ts_w p1 < ((8 : Nat) : Int)) ∧ ((0 ≤ ts_w p1 ∧ ts_w p1 < ((8 : Nat) : Int)) ∧ ∀ M3, M3 = ts_si M1 (b + 4) (ts_w p1) ((M1.1 (b + 4) (ts_w p1)) - 1) → (∀ M4, M4 = ts_si M3 (b + 1) 7 ((M3.1 (b + 1) 7) + 1) → ((0 ≤ ts_w p1 ∧ ts_w p1 < ((8 : Nat) : Int)) ∧ ((0 ≤ ts_w p1 ∧ ts_w p1 < ((8 : Nat) : Int)) ∧ ∀ M5, M5 = ts_si M4 (b + 5) (ts_w p1) ((M4.1 (b + 5) (ts_w p1)) + 1) → ((0 ≤ ts_w p1 ∧ ts_w p1 < ((8 : Nat) : Int)) ∧ Q (M5.1 (b + 5) (ts_w p1)) M5))))))) ∧ (ts_w r2 = 0 → Q (-1) M1))) M)
set_option maxRecDepth 100000 in
set_option maxHeartbeats 4000000 in
theorem mX8_letSpeak {l : Launch} {g : ts_W} (hl : l.stackTraces = false) {b : Nat} (hb : ts_isS b) {p1 : Int} {Q : Int → ts_M → Prop} {M : ts_M} : wX8_letSpeak b p1 Q M → ts_Con l g yX8_letSpeak cX8_letSpeak 2 (some .int) 1 0 0 [.ref (ts_ad g (b + 1)), ts_v p1] M (ts_Ri Q) := by
  intro h0
  refine ts_Con.of hl (by decide) (Nat.le_of_ble_eq_true rfl) ?_
  intro p e s m args below meth c C
  revert h0
  unfold wX8_letSpeak
  have hl0 : lv_args 0 [.ref (ts_ad g (b + 1)), ts_v p1] = [(0, .ref (ts_ad g (b + 1))), (1, ts_v p1)] := rfl
  rw [hl0]
  refine ts_aload_n C dX8_letSpeak_0 rfl 0 rfl ?_
  refine ts_iload_n C dX8_letSpeak_1 rfl 1 rfl ?_
  refine ts_callVi C [ts_v p1] (mX8_has hl hb) kX8_has q_1280 (ts_lt hb 1 (by decide)) (shX8 hb) rfl rfl rfl (Nat.le_of_ble_eq_true rfl) ⟨Nat.le_of_ble_eq_true rfl, Nat.le_of_ble_eq_true rfl⟩ ⟨Nat.le_of_ble_eq_true rfl, Nat.le_of_ble_eq_true rfl⟩ dX8_letSpeak_2 (fun r2 M1 => ?_)
  refine ts_cm0_ne C rfl 10 dX8_letSpeak_5 rfl ?_ ?_
  · refine ts_aload_n C dX8_letSpeak_10 rfl 0 rfl ?_
    refine tgX8_2 hb C q_184 dX8_letSpeak_11 ?_
    refine ts_iload_n C dX8_letSpeak_14 rfl 1 rfl ?_
    refine ts_dup2 C dX8_letSpeak_15 rfl rfl ?_
    refine ts_iald C (ts_lt hb 4 (by decide)) (shS4 hb) dX8_letSpeak_16 ?_
    refine ts_iconst C dX8_letSpeak_17 1 rfl ?_
    refine ts_isub C dX8_letSpeak_18 ?_
    refine ts_iast C (ts_lt hb 4 (by decide)) (shS4 hb) dX8_letSpeak_19 (fun M3 => ?_)
    refine ts_aload_n C dX8_letSpeak_20 rfl 0 rfl ?_
    refine ts_dup C dX8_letSpeak_21 rfl ?_
    refine tgX8_7 hb C q_195 dX8_letSpeak_22 ?_
    refine ts_iconst C dX8_letSpeak_25 1 rfl ?_
    refine ts_iadd C dX8_letSpeak_26 ?_
    refine tpX8_7 hb C q_195 dX8_letSpeak_27 (fun M4 => ?_)
    refine ts_aload_n C dX8_letSpeak_30 rfl 0 rfl ?_
    refine tgX8_3 hb C q_187 dX8_letSpeak_31 ?_
    refine ts_iload_n C dX8_letSpeak_34 rfl 1 rfl ?_
    refine ts_dup2 C dX8_letSpeak_35 rfl rfl ?_
    refine ts_iald C (ts_lt hb 5 (by decide)) (shS5 hb) dX8_letSpeak_36 ?_
    refine ts_iconst C dX8_letSpeak_37 1 rfl ?_
    refine ts_iadd C dX8_letSpeak_38 ?_
    refine ts_iast C (ts_lt hb 5 (by decide)) (shS5 hb) dX8_letSpeak_39 (fun M5 => ?_)
    refine ts_aload_n C dX8_letSpeak_40 rfl 0 rfl ?_
    refine tgX8_3 hb C q_187 dX8_letSpeak_41 ?_
    refine ts_iload_n C dX8_letSpeak_44 rfl 1 rfl ?_
    refine ts_iald C (ts_lt hb 5 (by decide)) (shS5 hb) dX8_letSpeak_45 ?_
    exact ts_ireti C (Nat.zero_le _) (Nat.zero_le _) dX8_letSpeak_46
  · refine ts_iconst C dX8_letSpeak_8 (-1) rfl ?_
    exact ts_ireti C (Nat.zero_le _) (Nat.zero_le _) dX8_letSpeak_9
def wX8_give (b : Nat) (p1 : Int) (p2 : Int) (Q : Int → ts_M → Prop) (M : ts_M) : Prop :=
  (wX8_has b p1 (fun r2 M1 => ((¬ (ts_w r2 = 0) → ((0 ≤ ts_w p1 ∧ ts_w p1 < ((8 : Nat) : Int)) ∧ ((0 ≤ ts_w p1 ∧ ts_w p1 < ((8 : Nat) : Int)) ∧ ∀ M3, M3 = ts_si M1 (b + 4) (ts_w p1) ((M1.1 (b + 4) (ts_w p1)) + p2) → (∀ M4, M4 = ts_si M3 (b + 1) 5 ((M3.1 (b + 1) 5) + p2) → ((0 ≤ ts_w p1 ∧ ts_w p1 < ((8 : Nat) : Int)) ∧ Q (M4.1 (b + 4) (ts_w p1)) M4))))) ∧ (ts_w r2 = 0 → Q (-1) M1))) M)
set_option maxRecDepth 100000 in
set_option maxHeartbeats 4000000 in
theorem mX8_give {l : Launch} {g : ts_W} (hl : l.stackTraces = false) {b : Nat} (hb : ts_isS b) {p1 : Int} {p2 : Int} {Q : Int → ts_M → Prop} {M : ts_M} : wX8_give b p1 p2 Q M → ts_Con l g yX8_give cX8_give 3 (some .int) 1 0 0 [.ref (ts_ad g (b + 1)), ts_v p1, ts_v p2] M (ts_Ri Q) := by
  intro h0
  refine ts_Con.of hl (by decide) (Nat.le_of_ble_eq_true rfl) ?_
  intro p e s m args below meth c C
  revert h0
  unfold wX8_give
  have hl0 : lv_args 0 [.ref (ts_ad g (b + 1)), ts_v p1, ts_v p2] = [(0, .ref (ts_ad g (b + 1))), (1, ts_v p1), (2, ts_v p2)] := rfl
  rw [hl0]
  refine ts_aload_n C dX8_give_0 rfl 0 rfl ?_
  refine ts_iload_n C dX8_give_1 rfl 1 rfl ?_
  refine ts_callVi C [ts_v p1] (mX8_has hl hb) kX8_has q_1280 (ts_lt hb 1 (by decide)) (shX8 hb) rfl rfl rfl (Nat.le_of_ble_eq_true rfl) ⟨Nat.le_of_ble_eq_true rfl, Nat.le_of_ble_eq_true rfl⟩ ⟨Nat.le_of_ble_eq_true rfl, Nat.le_of_ble_eq_true rfl⟩ dX8_give_2 (fun r2 M1 => ?_)
  refine ts_cm0_ne C rfl 10 dX8_give_5 rfl ?_ ?_
  · refine ts_aload_n C dX8_give_10 rfl 0 rfl ?_
    refine tgX8_2 hb C q_184 dX8_give_11 ?_
    refine ts_iload_n C dX8_give_14 rfl 1 rfl ?_
    refine ts_dup2 C dX8_give_15 rfl rfl ?_
    refine ts_iald C (ts_lt hb 4 (by decide)) (shS4 hb) dX8_give_16 ?_
    refine ts_iload_n C dX8_give_17 rfl 2 rfl ?_
    refine ts_iadd C dX8_give_18 ?_
    refine ts_iast C (ts_lt hb 4 (by decide)) (shS4 hb) dX8_give_19 (fun M3 => ?_)
    refine ts_aload_n C dX8_give_20 rfl 0 rfl ?_
    refine ts_dup C dX8_give_21 rfl ?_
    refine tgX8_5 hb C q_193 dX8_give_22 ?_
    refine ts_iload_n C dX8_give_25 rfl 2 rfl ?_
    refine ts_iadd C dX8_give_26 ?_
    refine tpX8_5 hb C q_193 dX8_give_27 (fun M4 => ?_)
    refine ts_aload_n C dX8_give_30 rfl 0 rfl ?_
    refine tgX8_2 hb C q_184 dX8_give_31 ?_
    refine ts_iload_n C dX8_give_34 rfl 1 rfl ?_
    refine ts_iald C (ts_lt hb 4 (by decide)) (shS4 hb) dX8_give_35 ?_
    exact ts_ireti C (Nat.zero_le _) (Nat.zero_le _) dX8_give_36
  · refine ts_iconst C dX8_give_8 (-1) rfl ?_
    exact ts_ireti C (Nat.zero_le _) (Nat.zero_le _) dX8_give_9
def wX8_gain_B28 (b : Nat)  (Q : ts_M → Prop)   (M : ts_M) : Prop :=
  Q M
def wX8_gain (b : Nat) (p1 : Int) (p2 : Int) (Q : ts_M → Prop) (M : ts_M) : Prop :=
  (wX8_has b p1 (fun r2 M1 => ((ts_w r2 = 0 → wX8_gain_B28 b Q M1) ∧ (¬ (ts_w r2 = 0) → ((0 ≤ ts_w p1 ∧ ts_w p1 < ((8 : Nat) : Int)) ∧ ((0 ≤ ts_w p1 ∧ ts_w p1 < ((8 : Nat) : Int)) ∧ ∀ M3, M3 = ts_si M1 (b + 4) (ts_w p1) ((M1.1 (b + 4) (ts_w p1)) + p2) → (∀ M4, M4 = ts_si M3 (b + 1) 6 ((M3.1 (b + 1) 6) + p2) → wX8_gain_B28 b Q M4)))))) M)
set_option maxRecDepth 100000 in
set_option maxHeartbeats 4000000 in
theorem mX8_gain {l : Launch} {g : ts_W} (hl : l.stackTraces = false) {b : Nat} (hb : ts_isS b) {p1 : Int} {p2 : Int} {Q : ts_M → Prop} {M : ts_M} : wX8_gain b p1 p2 Q M → ts_Con l g yX8_gain cX8_gain 3 none 1 0 0 [.ref (ts_ad g (b + 1)), ts_v p1, ts_v p2] M (ts_Rv Q) := by
  intro h0
  refine ts_Con.of hl (by decide) (Nat.le_of_ble_eq_true rfl) ?_
  intro p e s m args below meth c C
  have H28 : ∀  (M : ts_M), wX8_gain_B28 b  Q  M → ts_V p l e (ts_rm 1 0 0) s m args below meth c g 3 0 0 (MQ below (ts_Q g (ts_Rv Q)) args s 0 0 (ts_A g)) 28 [] [] M := by
    intro   M
    unfold wX8_gain_B28
    exact ts_vreti C (Nat.zero_le _) (Nat.zero_le _) dX8_gain_28
  revert h0
  unfold wX8_gain
  have hl0 : lv_args 0 [.ref (ts_ad g (b + 1)), ts_v p1, ts_v p2] = [(0, .ref (ts_ad g (b + 1))), (1, ts_v p1), (2, ts_v p2)] := rfl
  rw [hl0]
  refine ts_aload_n C dX8_gain_0 rfl 0 rfl ?_
  refine ts_iload_n C dX8_gain_1 rfl 1 rfl ?_
  refine ts_callVi C [ts_v p1] (mX8_has hl hb) kX8_has q_1280 (ts_lt hb 1 (by decide)) (shX8 hb) rfl rfl rfl (Nat.le_of_ble_eq_true rfl) ⟨Nat.le_of_ble_eq_true rfl, Nat.le_of_ble_eq_true rfl⟩ ⟨Nat.le_of_ble_eq_true rfl, Nat.le_of_ble_eq_true rfl⟩ dX8_gain_2 (fun r2 M1 => ?_)
  refine ts_cm0_eq C rfl 28 dX8_gain_5 rfl ?_ ?_
  · exact ts_sub [] rfl (H28 _)
  · refine ts_aload_n C dX8_gain_8 rfl 0 rfl ?_
    refine tgX8_2 hb C q_184 dX8_gain_9 ?_
    refine ts_iload_n C dX8_gain_12 rfl 1 rfl ?_
    refine ts_dup2 C dX8_gain_13 rfl rfl ?_
    refine ts_iald C (ts_lt hb 4 (by decide)) (shS4 hb) dX8_gain_14 ?_
    refine ts_iload_n C dX8_gain_15 rfl 2 rfl ?_
    refine ts_iadd C dX8_gain_16 ?_
    refine ts_iast C (ts_lt hb 4 (by decide)) (shS4 hb) dX8_gain_17 (fun M3 => ?_)
    refine ts_aload_n C dX8_gain_18 rfl 0 rfl ?_
    refine ts_dup C dX8_gain_19 rfl ?_
    refine tgX8_6 hb C q_194 dX8_gain_20 ?_
    refine ts_iload_n C dX8_gain_23 rfl 2 rfl ?_
    refine ts_iadd C dX8_gain_24 ?_
    refine tpX8_6 hb C q_194 dX8_gain_25 (fun M4 => ?_)
    exact ts_sub [] rfl (H28 _)
def wX8_forgetSpeeches_L2 (b : Nat)  (Q : ts_M → Prop) (k2 : Int → ts_M → Prop) (y1 : Int) (M : ts_M) : Prop :=
  ((8 ≤ ts_w y1 → Q M) ∧ (¬ (8 ≤ ts_w y1) → ((0 ≤ ts_w y1 ∧ ts_w y1 < ((8 : Nat) : Int)) ∧ ∀ M2, M2 = ts_si M (b + 5) (ts_w y1) 0 → (∀ x3 : Int, x3 = y1 + 1 → k2 x3 M2))))
def wX8_forgetSpeeches (b : Nat) (Q : ts_M → Prop) (M : ts_M) : Prop :=
  (∀ x1 : Int, x1 = 0 → ∃ n, ts_lp1 (wX8_forgetSpeeches_L2 b Q) n x1 M)
set_option maxRecDepth 100000 in
set_option maxHeartbeats 4000000 in
theorem mX8_forgetSpeeches {l : Launch} {g : ts_W} (hl : l.stackTraces = false) {b : Nat} (hb : ts_isS b) {Q : ts_M → Prop} {M : ts_M} : wX8_forgetSpeeches b Q M → ts_Con l g yX8_forgetSpeeches cX8_forgetSpeeches 2 none 0 0 0 [.ref (ts_ad g (b + 1))] M (ts_Rv Q) := by
  intro h0
  refine ts_Con.of hl (by decide) (Nat.le_of_ble_eq_true rfl) ?_
  intro p e s m args below meth c C
  have H2 : ∀ (n : Nat) (y1 : Int) (M : ts_M), ts_lp1 (wX8_forgetSpeeches_L2 b  Q) n y1 M → ts_V p l e (ts_rm 0 0 0) s m args below meth c g 2 0 0 (MQ below (ts_Q g (ts_Rv Q)) args s 0 0 (ts_A g)) 2 [(0, .ref (ts_ad g (b + 1))), (1, ts_v y1)] [] M := by
    refine ts_lpr1 (V := fun (y1 : Int) (M : ts_M) => ts_V p l e (ts_rm 0 0 0) s m args below meth c g 2 0 0 (MQ below (ts_Q g (ts_Rv Q)) args s 0 0 (ts_A g)) 2 [(0, .ref (ts_ad g (b + 1))), (1, ts_v y1)] [] M) ?_
    intro k2 hk2 y1 M
    unfold wX8_forgetSpeeches_L2
    refine ts_iload_n C dX8_forgetSpeeches_2 rfl 1 rfl ?_
    refine ts_bipush C dX8_forgetSpeeches_3 8 tb_8 ?_
    refine ts_cmp_ge C rfl tw_8 21 dX8_forgetSpeeches_5 rfl ?_ ?_
    · exact ts_vreti C (Nat.zero_le _) (Nat.zero_le _) dX8_forgetSpeeches_21
    · refine ts_aload_n C dX8_forgetSpeeches_8 rfl 0 rfl ?_
      refine tgX8_3 hb C q_187 dX8_forgetSpeeches_9 ?_
      refine ts_iload_n C dX8_forgetSpeeches_12 rfl 1 rfl ?_
      refine ts_iconst C dX8_forgetSpeeches_13 0 rfl ?_
      refine ts_iast C (ts_lt hb 5 (by decide)) (shS5 hb) dX8_forgetSpeeches_14 (fun M2 => ?_)
      refine ts_iinc C dX8_forgetSpeeches_15 1 rfl (by decide) (lv' := fun x3 => [(1, ts_v x3), (0, .ref (ts_ad g (b + 1)))]) (fun _ => rfl) (fun x3 => ?_)
      refine ts_goto C 2 dX8_forgetSpeeches_18 rfl ?_
      exact ts_sub [1, 0] rfl (hk2 _ _)
  revert h0
  unfold wX8_forgetSpeeches
  have hl0 : lv_args 0 [.ref (ts_ad g (b + 1))] = [(0, .ref (ts_ad g (b + 1)))] := rfl
  rw [hl0]
  refine ts_iconst C dX8_forgetSpeeches_0 0 rfl ?_
  refine ts_istore_n C dX8_forgetSpeeches_1 rfl (by decide) (lv' := fun x1 => [(1, ts_v x1), (0, .ref (ts_ad g (b + 1)))]) (fun _ => rfl) (fun x1 => ?_)
  rintro ⟨n, hn⟩
  exact ts_sub [1, 0] rfl (H2 n _ _) hn
def wX8_accountedLumps (b : Nat) (Q : Int → ts_M → Prop) (M : ts_M) : Prop :=
  Q ((((5 * (M.1 (b + 1) 4)) + (M.1 (b + 1) 5)) + (M.1 (b + 1) 6)) - (M.1 (b + 1) 7)) M
set_option maxRecDepth 100000 in
set_option maxHeartbeats 4000000 in
theorem mX8_accountedLumps {l : Launch} {g : ts_W} (hl : l.stackTraces = false) {b : Nat} (hb : ts_isS b) {Q : Int → ts_M → Prop} {M : ts_M} : wX8_accountedLumps b Q M → ts_Con l g yX8_accountedLumps cX8_accountedLumps 1 (some .int) 0 0 0 [.ref (ts_ad g (b + 1))] M (ts_Ri Q) := by
  intro h0
  refine ts_Con.of hl (by decide) (Nat.le_of_ble_eq_true rfl) ?_
  intro p e s m args below meth c C
  revert h0
  unfold wX8_accountedLumps
  have hl0 : lv_args 0 [.ref (ts_ad g (b + 1))] = [(0, .ref (ts_ad g (b + 1)))] := rfl
  rw [hl0]
  refine ts_iconst C dX8_accountedLumps_0 5 rfl ?_
  refine ts_aload_n C dX8_accountedLumps_1 rfl 0 rfl ?_
  refine tgX8_4 hb C q_190 dX8_accountedLumps_2 ?_
  refine ts_imul C dX8_accountedLumps_5 ?_
  refine ts_aload_n C dX8_accountedLumps_6 rfl 0 rfl ?_
  refine tgX8_5 hb C q_193 dX8_accountedLumps_7 ?_
  refine ts_iadd C dX8_accountedLumps_10 ?_
  refine ts_aload_n C dX8_accountedLumps_11 rfl 0 rfl ?_
  refine tgX8_6 hb C q_194 dX8_accountedLumps_12 ?_
  refine ts_iadd C dX8_accountedLumps_15 ?_
  refine ts_aload_n C dX8_accountedLumps_16 rfl 0 rfl ?_
  refine tgX8_7 hb C q_195 dX8_accountedLumps_17 ?_
  refine ts_isub C dX8_accountedLumps_20 ?_
  exact ts_ireti C (Nat.zero_le _) (Nat.zero_le _) dX8_accountedLumps_21
def wX8_sumOf_B30 (b : Nat) (q : Nat)  (Q : Int → ts_M → Prop)  (y2 : Int) (M : ts_M) : Prop :=
  Q y2 M
def wX8_sumOf_L4 (b : Nat) (q : Nat)  (Q : Int → ts_M → Prop) (k4 : Int → Int → ts_M → Prop) (y2 : Int) (y3 : Int) (M : ts_M) : Prop :=
  ((ts_w (M.1 (b + 1) 4) ≤ ts_w y3 → wX8_sumOf_B30 b q Q y2 M) ∧ (¬ (ts_w (M.1 (b + 1) 4) ≤ ts_w y3) → ((ts_w ((8 : Nat) : Int) ≤ ts_w y3 → wX8_sumOf_B30 b q Q y2 M) ∧ (¬ (ts_w ((8 : Nat) : Int) ≤ ts_w y3) → ((0 ≤ ts_w y3 ∧ ts_w y3 < ((8 : Nat) : Int)) ∧ (∀ x3 : Int, x3 = y2 + (M.1 q (ts_w y3)) → (∀ x4 : Int, x4 = y3 + 1 → k4 x3 x4 M)))))))
def wX8_sumOf (b : Nat) (q : Nat) (Q : Int → ts_M → Prop) (M : ts_M) : Prop :=
  (∀ x1 : Int, x1 = 0 → (∀ x2 : Int, x2 = 0 → ∃ n, ts_lp2 (wX8_sumOf_L4 b q Q) n x1 x2 M))
set_option maxRecDepth 100000 in
set_option maxHeartbeats 4000000 in
theorem mX8_sumOf {l : Launch} {g : ts_W} (hl : l.stackTraces = false) {b : Nat} {q : Nat} (hb : ts_isS b) (hq : q < 177) (hqG : ∀ f h d, ts_G g q f h d = ts_ia g 8 f) {Q : Int → ts_M → Prop} {M : ts_M} : wX8_sumOf b q Q M → ts_Con l g yX8_sumOf cX8_sumOf 4 (some .int) 0 0 0 [.ref (ts_ad g (b + 1)), .ref (ts_ad g q)] M (ts_Ri Q) := by
  intro h0
  refine ts_Con.of hl (by decide) (Nat.le_of_ble_eq_true rfl) ?_
  intro p e s m args below meth c C
  have H30 : ∀ (y2 : Int) (M : ts_M), wX8_sumOf_B30 b q  Q y2 M → ts_V p l e (ts_rm 0 0 0) s m args below meth c g 4 0 0 (MQ below (ts_Q g (ts_Ri Q)) args s 0 0 (ts_A g)) 30 [(2, ts_v y2)] [] M := by
    intro  y2 M
    unfold wX8_sumOf_B30
    refine ts_iload_n C dX8_sumOf_30 rfl 0 rfl ?_
    exact ts_ireti C (Nat.zero_le _) (Nat.zero_le _) dX8_sumOf_31
  have H4 : ∀ (n : Nat) (y2 : Int) (y3 : Int) (M : ts_M), ts_lp2 (wX8_sumOf_L4 b q  Q) n y2 y3 M → ts_V p l e (ts_rm 0 0 0) s m args below meth c g 4 0 0 (MQ below (ts_Q g (ts_Ri Q)) args s 0 0 (ts_A g)) 4 [(0, .ref (ts_ad g (b + 1))), (1, .ref (ts_ad g q)), (2, ts_v y2), (3, ts_v y3)] [] M := by
    refine ts_lpr2 (V := fun (y2 : Int) (y3 : Int) (M : ts_M) => ts_V p l e (ts_rm 0 0 0) s m args below meth c g 4 0 0 (MQ below (ts_Q g (ts_Ri Q)) args s 0 0 (ts_A g)) 4 [(0, .ref (ts_ad g (b + 1))), (1, .ref (ts_ad g q)), (2, ts_v y2), (3, ts_v y3)] [] M) ?_
    intro k4 hk4 y2 y3 M
    unfold wX8_sumOf_L4
    refine ts_iload_n C dX8_sumOf_4 rfl 3 rfl ?_
    refine ts_aload_n C dX8_sumOf_5 rfl 0 rfl ?_
    refine tgX8_4 hb C q_190 dX8_sumOf_6 ?_
    refine ts_cmp_ge C rfl rfl 30 dX8_sumOf_9 rfl ?_ ?_
    · exact ts_sub [2] rfl (H30 _ _)
    · refine ts_iload_n C dX8_sumOf_12 rfl 3 rfl ?_
      refine ts_aload_n C dX8_sumOf_13 rfl 1 rfl ?_
      refine ts_alenI C hq hqG dX8_sumOf_14 ?_
      refine ts_cmp_ge C rfl rfl 30 dX8_sumOf_15 rfl ?_ ?_
      · exact ts_sub [2] rfl (H30 _ _)
      · refine ts_iload_n C dX8_sumOf_18 rfl 2 rfl ?_
        refine ts_aload_n C dX8_sumOf_19 rfl 1 rfl ?_
        refine ts_iload_n C dX8_sumOf_20 rfl 3 rfl ?_
        refine ts_iald C hq hqG dX8_sumOf_21 ?_
        refine ts_iadd C dX8_sumOf_22 ?_
        refine ts_istore_n C dX8_sumOf_23 rfl (by decide) (lv' := fun x3 => [(2, ts_v x3), (0, .ref (ts_ad g (b + 1))), (1, .ref (ts_ad g q)), (3, ts_v y3)]) (fun _ => rfl) (fun x3 => ?_)
        refine ts_iinc C dX8_sumOf_24 3 rfl (by decide) (lv' := fun x4 => [(3, ts_v x4), (2, ts_v x3), (0, .ref (ts_ad g (b + 1))), (1, .ref (ts_ad g q))]) (fun _ => rfl) (fun x4 => ?_)
        refine ts_goto C 4 dX8_sumOf_27 rfl ?_
        exact ts_sub [2, 3, 1, 0] rfl (hk4 _ _ _)
  revert h0
  unfold wX8_sumOf
  have hl0 : lv_args 0 [.ref (ts_ad g (b + 1)), .ref (ts_ad g q)] = [(0, .ref (ts_ad g (b + 1))), (1, .ref (ts_ad g q))] := rfl
  rw [hl0]
  refine ts_iconst C dX8_sumOf_0 0 rfl ?_
  refine ts_istore_n C dX8_sumOf_1 rfl (by decide) (lv' := fun x1 => [(2, ts_v x1), (0, .ref (ts_ad g (b + 1))), (1, .ref (ts_ad g q))]) (fun _ => rfl) (fun x1 => ?_)
  refine ts_iconst C dX8_sumOf_2 0 rfl ?_
  refine ts_istore_n C dX8_sumOf_3 rfl (by decide) (lv' := fun x2 => [(3, ts_v x2), (2, ts_v x1), (0, .ref (ts_ad g (b + 1))), (1, .ref (ts_ad g q))]) (fun _ => rfl) (fun x2 => ?_)
  rintro ⟨n, hn⟩
  exact ts_sub [2, 3, 1, 0] rfl (H4 n _ _ _) hn
def wX8_comesBefore_B16 (b : Nat)  (Q : Int → ts_M → Prop)   (M : ts_M) : Prop :=
  Q 0 M
def wX8_comesBefore_B100 (b : Nat)  (Q : Int → ts_M → Prop)  (z0 : Int) (M : ts_M) : Prop :=
  ((ts_w z0 = 0 ∨ ts_w z0 = 1) ∧ Q z0 M)
def wX8_comesBefore_B89 (b : Nat)  (Q : Int → ts_M → Prop)  (z0 : Int) (M : ts_M) : Prop :=
  ((ts_w z0 = 0 ∨ ts_w z0 = 1) ∧ Q z0 M)
def wX8_comesBefore_B53 (b : Nat)  (Q : Int → ts_M → Prop)  (z0 : Int) (M : ts_M) : Prop :=
  ((ts_w z0 = 0 ∨ ts_w z0 = 1) ∧ Q z0 M)
def wX8_comesBefore (b : Nat) (p1 : Int) (p2 : Int) (Q : Int → ts_M → Prop) (M : ts_M) : Prop :=
  (wX8_has b p1 (fun r2 M1 => ((ts_w r2 = 0 → wX8_comesBefore_B16 b Q M1) ∧ (¬ (ts_w r2 = 0) → (wX8_has b p2 (fun r4 M3 => ((¬ (ts_w r4 = 0) → ((0 ≤ ts_w p1 ∧ ts_w p1 < ((8 : Nat) : Int)) ∧ ((0 ≤ ts_w p2 ∧ ts_w p2 < ((8 : Nat) : Int)) ∧ ((ts_w (M3.1 (b + 4) (ts_w p1)) = ts_w (M3.1 (b + 4) (ts_w p2)) → ((0 ≤ ts_w p1 ∧ ts_w p1 < ((8 : Nat) : Int)) ∧ ((0 ≤ ts_w p2 ∧ ts_w p2 < ((8 : Nat) : Int)) ∧ ((ts_w (M3.1 (b + 2) (ts_w p1)) = ts_w (M3.1 (b + 2) (ts_w p2)) → ((ts_w p2 ≤ ts_w p1 → wX8_comesBefore_B100 b Q 0 M3) ∧ (¬ (ts_w p2 ≤ ts_w p1) → wX8_comesBefore_B100 b Q 1 M3))) ∧ (¬ (ts_w (M3.1 (b + 2) (ts_w p1)) = ts_w (M3.1 (b + 2) (ts_w p2))) → ((0 ≤ ts_w p1 ∧ ts_w p1 < ((8 : Nat) : Int)) ∧ ((0 ≤ ts_w p2 ∧ ts_w p2 < ((8 : Nat) : Int)) ∧ ((ts_w (M3.1 (b + 2) (ts_w p1)) ≤ ts_w (M3.1 (b + 2) (ts_w p2)) → wX8_comesBefore_B89 b Q 0 M3) ∧ (¬ (ts_w (M3.1 (b + 2) (ts_w p1)) ≤ ts_w (M3.1 (b + 2) (ts_w p2))) → wX8_comesBefore_B89 b Q 1 M3))))))))) ∧ (¬ (ts_w (M3.1 (b + 4) (ts_w p1)) = ts_w (M3.1 (b + 4) (ts_w p2))) → ((0 ≤ ts_w p1 ∧ ts_w p1 < ((8 : Nat) : Int)) ∧ ((0 ≤ ts_w p2 ∧ ts_w p2 < ((8 : Nat) : Int)) ∧ ((ts_w (M3.1 (b + 4) (ts_w p1)) ≤ ts_w (M3.1 (b + 4) (ts_w p2)) → wX8_comesBefore_B53 b Q 0 M3) ∧ (¬ (ts_w (M3.1 (b + 4) (ts_w p1)) ≤ ts_w (M3.1 (b + 4) (ts_w p2))) → wX8_comesBefore_B53 b Q 1 M3))))))))) ∧ (ts_w r4 = 0 → wX8_comesBefore_B16 b Q M3))) M1)))) M)
set_option maxRecDepth 100000 in
set_option maxHeartbeats 4000000 in
theorem mX8_comesBefore {l : Launch} {g : ts_W} (hl : l.stackTraces = false) {b : Nat} (hb : ts_isS b) {p1 : Int} {p2 : Int} {Q : Int → ts_M → Prop} {M : ts_M} : wX8_comesBefore b p1 p2 Q M → ts_Con l g yX8_comesBefore cX8_comesBefore 3 (some .boolean) 1 0 0 [.ref (ts_ad g (b + 1)), ts_v p1, ts_v p2] M (ts_Ri Q) := by
  intro h0
  refine ts_Con.of hl (by decide) (Nat.le_of_ble_eq_true rfl) ?_
  intro p e s m args below meth c C
  have H16 : ∀  (M : ts_M), wX8_comesBefore_B16 b  Q  M → ts_V p l e (ts_rm 1 0 0) s m args below meth c g 3 0 0 (MQ below (ts_Q g (ts_Ri Q)) args s 0 0 (ts_A g)) 16 [] [] M := by
    intro   M
    unfold wX8_comesBefore_B16
    refine ts_iconst C dX8_comesBefore_16 0 rfl ?_
    exact ts_zretci C (by decide) (Nat.zero_le _) (Nat.zero_le _) dX8_comesBefore_17
  have H100 : ∀ (z0 : Int) (M : ts_M), wX8_comesBefore_B100 b  Q z0 M → ts_V p l e (ts_rm 1 0 0) s m args below meth c g 3 0 0 (MQ below (ts_Q g (ts_Ri Q)) args s 0 0 (ts_A g)) 100 [] [ts_v z0] M := by
    intro  z0 M
    unfold wX8_comesBefore_B100
    exact ts_zreti C (Nat.zero_le _) (Nat.zero_le _) dX8_comesBefore_100
  have H89 : ∀ (z0 : Int) (M : ts_M), wX8_comesBefore_B89 b  Q z0 M → ts_V p l e (ts_rm 1 0 0) s m args below meth c g 3 0 0 (MQ below (ts_Q g (ts_Ri Q)) args s 0 0 (ts_A g)) 89 [] [ts_v z0] M := by
    intro  z0 M
    unfold wX8_comesBefore_B89
    exact ts_zreti C (Nat.zero_le _) (Nat.zero_le _) dX8_comesBefore_89
  have H53 : ∀ (z0 : Int) (M : ts_M), wX8_comesBefore_B53 b  Q z0 M → ts_V p l e (ts_rm 1 0 0) s m args below meth c g 3 0 0 (MQ below (ts_Q g (ts_Ri Q)) args s 0 0 (ts_A g)) 53 [] [ts_v z0] M := by
    intro  z0 M
    unfold wX8_comesBefore_B53
    exact ts_zreti C (Nat.zero_le _) (Nat.zero_le _) dX8_comesBefore_53
  revert h0
  unfold wX8_comesBefore
  have hl0 : lv_args 0 [.ref (ts_ad g (b + 1)), ts_v p1, ts_v p2] = [(0, .ref (ts_ad g (b + 1))), (1, ts_v p1), (2, ts_v p2)] := rfl
  rw [hl0]
  refine ts_aload_n C dX8_comesBefore_0 rfl 0 rfl ?_
  refine ts_iload_n C dX8_comesBefore_1 rfl 1 rfl ?_
  refine ts_callVi C [ts_v p1] (mX8_has hl hb) kX8_has q_1280 (ts_lt hb 1 (by decide)) (shX8 hb) rfl rfl rfl (Nat.le_of_ble_eq_true rfl) ⟨Nat.le_of_ble_eq_true rfl, Nat.le_of_ble_eq_true rfl⟩ ⟨Nat.le_of_ble_eq_true rfl, Nat.le_of_ble_eq_true rfl⟩ dX8_comesBefore_2 (fun r2 M1 => ?_)
  refine ts_cm0_eq C rfl 16 dX8_comesBefore_5 rfl ?_ ?_
  · exact ts_sub [] rfl (H16 _)
  · refine ts_aload_n C dX8_comesBefore_8 rfl 0 rfl ?_
    refine ts_iload_n C dX8_comesBefore_9 rfl 2 rfl ?_
    refine ts_callVi C [ts_v p2] (mX8_has hl hb) kX8_has q_1280 (ts_lt hb 1 (by decide)) (shX8 hb) rfl rfl rfl (Nat.le_of_ble_eq_true rfl) ⟨Nat.le_of_ble_eq_true rfl, Nat.le_of_ble_eq_true rfl⟩ ⟨Nat.le_of_ble_eq_true rfl, Nat.le_of_ble_eq_true rfl⟩ dX8_comesBefore_10 (fun r4 M3 => ?_)
    refine ts_cm0_ne C rfl 18 dX8_comesBefore_13 rfl ?_ ?_
    · refine ts_aload_n C dX8_comesBefore_18 rfl 0 rfl ?_
      refine tgX8_2 hb C q_184 dX8_comesBefore_19 ?_
      refine ts_iload_n C dX8_comesBefore_22 rfl 1 rfl ?_
      refine ts_iald C (ts_lt hb 4 (by decide)) (shS4 hb) dX8_comesBefore_23 ?_
      refine ts_aload_n C dX8_comesBefore_24 rfl 0 rfl ?_
      refine tgX8_2 hb C q_184 dX8_comesBefore_25 ?_
      refine ts_iload_n C dX8_comesBefore_28 rfl 2 rfl ?_
      refine ts_iald C (ts_lt hb 4 (by decide)) (shS4 hb) dX8_comesBefore_29 ?_
      refine ts_cmp_eq C rfl rfl 54 dX8_comesBefore_30 rfl ?_ ?_
      · refine ts_aload_n C dX8_comesBefore_54 rfl 0 rfl ?_
        refine tgX8_0 hb C q_178 dX8_comesBefore_55 ?_
        refine ts_iload_n C dX8_comesBefore_58 rfl 1 rfl ?_
        refine ts_iald C (ts_lt hb 2 (by decide)) (shS2 hb) dX8_comesBefore_59 ?_
        refine ts_aload_n C dX8_comesBefore_60 rfl 0 rfl ?_
        refine tgX8_0 hb C q_178 dX8_comesBefore_61 ?_
        refine ts_iload_n C dX8_comesBefore_64 rfl 2 rfl ?_
        refine ts_iald C (ts_lt hb 2 (by decide)) (shS2 hb) dX8_comesBefore_65 ?_
        refine ts_cmp_eq C rfl rfl 90 dX8_comesBefore_66 rfl ?_ ?_
        · refine ts_iload_n C dX8_comesBefore_90 rfl 1 rfl ?_
          refine ts_iload_n C dX8_comesBefore_91 rfl 2 rfl ?_
          refine ts_cmp_ge C rfl rfl 99 dX8_comesBefore_92 rfl ?_ ?_
          · refine ts_iconst C dX8_comesBefore_99 0 rfl ?_
            exact ts_sub [] rfl (H100 _ _)
          · refine ts_iconst C dX8_comesBefore_95 1 rfl ?_
            refine ts_goto C 100 dX8_comesBefore_96 rfl ?_
            exact ts_sub [] rfl (H100 _ _)
        · refine ts_aload_n C dX8_comesBefore_69 rfl 0 rfl ?_
          refine tgX8_0 hb C q_178 dX8_comesBefore_70 ?_
          refine ts_iload_n C dX8_comesBefore_73 rfl 1 rfl ?_
          refine ts_iald C (ts_lt hb 2 (by decide)) (shS2 hb) dX8_comesBefore_74 ?_
          refine ts_aload_n C dX8_comesBefore_75 rfl 0 rfl ?_
          refine tgX8_0 hb C q_178 dX8_comesBefore_76 ?_
          refine ts_iload_n C dX8_comesBefore_79 rfl 2 rfl ?_
          refine ts_iald C (ts_lt hb 2 (by decide)) (shS2 hb) dX8_comesBefore_80 ?_
          refine ts_cmp_le C rfl rfl 88 dX8_comesBefore_81 rfl ?_ ?_
          · refine ts_iconst C dX8_comesBefore_88 0 rfl ?_
            exact ts_sub [] rfl (H89 _ _)
          · refine ts_iconst C dX8_comesBefore_84 1 rfl ?_
            refine ts_goto C 89 dX8_comesBefore_85 rfl ?_
            exact ts_sub [] rfl (H89 _ _)
      · refine ts_aload_n C dX8_comesBefore_33 rfl 0 rfl ?_
        refine tgX8_2 hb C q_184 dX8_comesBefore_34 ?_
        refine ts_iload_n C dX8_comesBefore_37 rfl 1 rfl ?_
        refine ts_iald C (ts_lt hb 4 (by decide)) (shS4 hb) dX8_comesBefore_38 ?_
        refine ts_aload_n C dX8_comesBefore_39 rfl 0 rfl ?_
        refine tgX8_2 hb C q_184 dX8_comesBefore_40 ?_
        refine ts_iload_n C dX8_comesBefore_43 rfl 2 rfl ?_
        refine ts_iald C (ts_lt hb 4 (by decide)) (shS4 hb) dX8_comesBefore_44 ?_
        refine ts_cmp_le C rfl rfl 52 dX8_comesBefore_45 rfl ?_ ?_
        · refine ts_iconst C dX8_comesBefore_52 0 rfl ?_
          exact ts_sub [] rfl (H53 _ _)
        · refine ts_iconst C dX8_comesBefore_48 1 rfl ?_
          refine ts_goto C 53 dX8_comesBefore_49 rfl ?_
          exact ts_sub [] rfl (H53 _ _)
    · exact ts_sub [] rfl (H16 _)
def wX9_startAnewIfTableIsEmpty_B25 (b : Nat)  (Q : ts_M → Prop)   (M : ts_M) : Prop :=
  Q M
def wX9_startAnewIfTableIsEmpty (b : Nat) (Q : ts_M → Prop) (M : ts_M) : Prop :=
  ((¬ (ts_w (M.1 (b + 9) 1) = 0) → wX9_startAnewIfTableIsEmpty_B25 b Q M) ∧ (ts_w (M.1 (b + 9) 1) = 0 → (∀ M1, M1 = ts_si M (b + 9) 4 0 → (wX8_forgetSpeeches b (fun M2 => wX9_startAnewIfTableIsEmpty_B25 b Q M2) M1))))
set_option maxRecDepth 100000 in
set_option maxHeartbeats 4000000 in
theorem mX9_startAnewIfTableIsEmpty {l : Launch} {g : ts_W} (hl : l.stackTraces = false) {b : Nat} (hb : ts_isS b) {Q : ts_M → Prop} {M : ts_M} : wX9_startAnewIfTableIsEmpty b Q M → ts_Con l g yX9_startAnewIfTableIsEmpty cX9_startAnewIfTableIsEmpty 1 none 1 0 0 [.ref (ts_ad g b)] M (ts_Rv Q) := by
  intro h0
  refine ts_Con.of hl (by decide) (Nat.le_of_ble_eq_true rfl) ?_
  intro p e s m args below meth c C
  have H25 : ∀  (M : ts_M), wX9_startAnewIfTableIsEmpty_B25 b  Q  M → ts_V p l e (ts_rm 1 0 0) s m args below meth c g 1 0 0 (MQ below (ts_Q g (ts_Rv Q)) args s 0 0 (ts_A g)) 25 [] [] M := by
    intro   M
    unfold wX9_startAnewIfTableIsEmpty_B25
    exact ts_vreti C (Nat.zero_le _) (Nat.zero_le _) dX9_startAnewIfTableIsEmpty_25
  revert h0
  unfold wX9_startAnewIfTableIsEmpty
  have hl0 : lv_args 0 [.ref (ts_ad g b)] = [(0, .ref (ts_ad g b))] := rfl
  rw [hl0]
  refine ts_aload_n C dX9_startAnewIfTableIsEmpty_0 rfl 0 rfl ?_
  refine tgX9_2 hb C q_295 dX9_startAnewIfTableIsEmpty_1 ?_
  refine tgX10_1 hb C q_248 dX9_startAnewIfTableIsEmpty_4 ?_
  refine ts_cm0_ne C rfl 25 dX9_startAnewIfTableIsEmpty_7 rfl ?_ ?_
  · exact ts_sub [] rfl (H25 _)
  · refine ts_aload_n C dX9_startAnewIfTableIsEmpty_10 rfl 0 rfl ?_
    refine tgX9_2 hb C q_295 dX9_startAnewIfTableIsEmpty_11 ?_
    refine ts_iconst C dX9_startAnewIfTableIsEmpty_14 0 rfl ?_
    refine tpX10_4c hb C (by decide) q_257 dX9_startAnewIfTableIsEmpty_15 (fun M1 => ?_)
    refine ts_aload_n C dX9_startAnewIfTableIsEmpty_18 rfl 0 rfl ?_
    refine tgX9_0 hb C q_289 dX9_startAnewIfTableIsEmpty_19 ?_
    refine ts_callVv C [] (mX8_forgetSpeeches hl hb) kX8_forgetSpeeches q_1365 (ts_lt hb 1 (by decide)) (shX8 hb) rfl rfl rfl (Nat.le_of_ble_eq_true rfl) ⟨Nat.le_of_ble_eq_true rfl, Nat.le_of_ble_eq_true rfl⟩ ⟨Nat.le_of_ble_eq_true rfl, Nat.le_of_ble_eq_true rfl⟩ dX9_startAnewIfTableIsEmpty_22 (fun M2 => ?_)
    exact ts_sub [] rfl (H25 _)
def wX9_mainPosition (b : Nat) (Q : Int → ts_M → Prop) (M : ts_M) : Prop :=
  (wX4_positionOf b (M.1 (b + 9) 2) (fun r2 M1 => Q r2 M1) M)
set_option maxRecDepth 100000 in
set_option maxHeartbeats 4000000 in
theorem mX9_mainPosition {l : Launch} {g : ts_W} (hl : l.stackTraces = false) {b : Nat} (hb : ts_isS b) {Q : Int → ts_M → Prop} {M : ts_M} : wX9_mainPosition b Q M → ts_Con l g yX9_mainPosition cX9_mainPosition 1 (some .int) 2 0 0 [.ref (ts_ad g b)] M (ts_Ri Q) := by
  intro h0
  refine ts_Con.of hl (by decide) (Nat.le_of_ble_eq_true rfl) ?_
  intro p e s m args below meth c C
  revert h0
  unfold wX9_mainPosition
  have hl0 : lv_args 0 [.ref (ts_ad g b)] = [(0, .ref (ts_ad g b))] := rfl
  rw [hl0]
  refine ts_aload_n C dX9_mainPosition_0 rfl 0 rfl ?_
  refine tgX9_1 hb C q_292 dX9_mainPosition_1 ?_
  refine ts_aload_n C dX9_mainPosition_4 rfl 0 rfl ?_
  refine tgX9_2 hb C q_295 dX9_mainPosition_5 ?_
  refine tgX10_2 hb C q_251 dX9_mainPosition_8 ?_
  refine ts_callVi C [ts_v (M.1 (b + 9) 2)] (mX4_positionOf hl hb) kX4_positionOf q_1294 (ts_lt hb 6 (by decide)) (shX4 hb) rfl rfl rfl (Nat.le_of_ble_eq_true rfl) ⟨Nat.le_of_ble_eq_true rfl, Nat.le_of_ble_eq_true rfl⟩ ⟨Nat.le_of_ble_eq_true rfl, Nat.le_of_ble_eq_true rfl⟩ dX9_mainPosition_11 (fun r2 M1 => ?_)
  exact ts_ireti C (Nat.zero_le _) (Nat.zero_le _) dX9_mainPosition_14
def wX9_keepsMinute_B28 (b : Nat)  (Q : Int → ts_M → Prop)  (z0 : Int) (M : ts_M) : Prop :=
  ((ts_w z0 = 0 ∨ ts_w z0 = 1) ∧ Q z0 M)
def wX9_keepsMinute_B27 (b : Nat)  (Q : Int → ts_M → Prop)   (M : ts_M) : Prop :=
  wX9_keepsMinute_B28 b Q 0 M
def wX9_keepsMinute (b : Nat) (p1 : Int) (Q : Int → ts_M → Prop) (M : ts_M) : Prop :=
  ((ts_w p1 < 0 → wX9_keepsMinute_B27 b Q M) ∧ (¬ (ts_w p1 < 0) → ((ts_w (M.1 b 5) ≤ ts_w p1 → wX9_keepsMinute_B27 b Q M) ∧ (¬ (ts_w (M.1 b 5) ≤ ts_w p1) → ((ts_w p1 < ts_w ((M.1 b 5) - 20) → wX9_keepsMinute_B27 b Q M) ∧ (¬ (ts_w p1 < ts_w ((M.1 b 5) - 20)) → wX9_keepsMinute_B28 b Q 1 M))))))
set_option maxRecDepth 100000 in
set_option maxHeartbeats 4000000 in
theorem mX9_keepsMinute {l : Launch} {g : ts_W} (hl : l.stackTraces = false) {b : Nat} (hb : ts_isS b) {p1 : Int} {Q : Int → ts_M → Prop} {M : ts_M} : wX9_keepsMinute b p1 Q M → ts_Con l g yX9_keepsMinute cX9_keepsMinute 2 (some .boolean) 0 0 0 [.ref (ts_ad g b), ts_v p1] M (ts_Ri Q) := by
  intro h0
  refine ts_Con.of hl (by decide) (Nat.le_of_ble_eq_true rfl) ?_
  intro p e s m args below meth c C
  have H28 : ∀ (z0 : Int) (M : ts_M), wX9_keepsMinute_B28 b  Q z0 M → ts_V p l e (ts_rm 0 0 0) s m args below meth c g 2 0 0 (MQ below (ts_Q g (ts_Ri Q)) args s 0 0 (ts_A g)) 28 [] [ts_v z0] M := by
    intro  z0 M
    unfold wX9_keepsMinute_B28
    exact ts_zreti C (Nat.zero_le _) (Nat.zero_le _) dX9_keepsMinute_28
  have H27 : ∀  (M : ts_M), wX9_keepsMinute_B27 b  Q  M → ts_V p l e (ts_rm 0 0 0) s m args below meth c g 2 0 0 (MQ below (ts_Q g (ts_Ri Q)) args s 0 0 (ts_A g)) 27 [] [] M := by
    intro   M
    unfold wX9_keepsMinute_B27
    refine ts_iconst C dX9_keepsMinute_27 0 rfl ?_
    exact ts_sub [] rfl (H28 _ _)
  revert h0
  unfold wX9_keepsMinute
  have hl0 : lv_args 0 [.ref (ts_ad g b), ts_v p1] = [(0, .ref (ts_ad g b)), (1, ts_v p1)] := rfl
  rw [hl0]
  refine ts_iload_n C dX9_keepsMinute_0 rfl 1 rfl ?_
  refine ts_cm0_lt C rfl 27 dX9_keepsMinute_1 rfl ?_ ?_
  · exact ts_sub [] rfl (H27 _)
  · refine ts_iload_n C dX9_keepsMinute_4 rfl 1 rfl ?_
    refine ts_aload_n C dX9_keepsMinute_5 rfl 0 rfl ?_
    refine tgX9_5 hb C q_300 dX9_keepsMinute_6 ?_
    refine ts_cmp_ge C rfl rfl 27 dX9_keepsMinute_9 rfl ?_ ?_
    · exact ts_sub [] rfl (H27 _)
    · refine ts_iload_n C dX9_keepsMinute_12 rfl 1 rfl ?_
      refine ts_aload_n C dX9_keepsMinute_13 rfl 0 rfl ?_
      refine tgX9_5 hb C q_300 dX9_keepsMinute_14 ?_
      refine ts_bipush C dX9_keepsMinute_17 20 tb_20 ?_
      refine ts_isub C dX9_keepsMinute_19 ?_
      refine ts_cmp_lt C rfl rfl 27 dX9_keepsMinute_20 rfl ?_ ?_
      · exact ts_sub [] rfl (H27 _)
      · refine ts_iconst C dX9_keepsMinute_23 1 rfl ?_
        refine ts_goto C 28 dX9_keepsMinute_24 rfl ?_
        exact ts_sub [] rfl (H28 _ _)
def wX10_rankAt_B22 (b : Nat)  (Q : Int → ts_M → Prop)  (z0 : Int) (M : ts_M) : Prop :=
  Q z0 M
def wX10_rankAt_B21 (b : Nat)  (Q : Int → ts_M → Prop)   (M : ts_M) : Prop :=
  wX10_rankAt_B22 b Q (-1) M
def wX10_rankAt (b : Nat) (p1 : Int) (Q : Int → ts_M → Prop) (M : ts_M) : Prop :=
  ((ts_w p1 < 0 → wX10_rankAt_B21 b Q M) ∧ (¬ (ts_w p1 < 0) → ((ts_w (M.1 (b + 9) 1) ≤ ts_w p1 → wX10_rankAt_B21 b Q M) ∧ (¬ (ts_w (M.1 (b + 9) 1) ≤ ts_w p1) → ((0 ≤ ts_w p1 ∧ ts_w p1 < ((5 : Nat) : Int)) ∧ wX10_rankAt_B22 b Q (M.1 (b + 10) (ts_w p1)) M)))))
set_option maxRecDepth 100000 in
set_option maxHeartbeats 4000000 in
theorem mX10_rankAt {l : Launch} {g : ts_W} (hl : l.stackTraces = false) {b : Nat} (hb : ts_isS b) {p1 : Int} {Q : Int → ts_M → Prop} {M : ts_M} : wX10_rankAt b p1 Q M → ts_Con l g yX10_rankAt cX10_rankAt 2 (some .int) 0 0 0 [.ref (ts_ad g (b + 9)), ts_v p1] M (ts_Ri Q) := by
  intro h0
  refine ts_Con.of hl (by decide) (Nat.le_of_ble_eq_true rfl) ?_
  intro p e s m args below meth c C
  have H22 : ∀ (z0 : Int) (M : ts_M), wX10_rankAt_B22 b  Q z0 M → ts_V p l e (ts_rm 0 0 0) s m args below meth c g 2 0 0 (MQ below (ts_Q g (ts_Ri Q)) args s 0 0 (ts_A g)) 22 [] [ts_v z0] M := by
    intro  z0 M
    unfold wX10_rankAt_B22
    exact ts_ireti C (Nat.zero_le _) (Nat.zero_le _) dX10_rankAt_22
  have H21 : ∀  (M : ts_M), wX10_rankAt_B21 b  Q  M → ts_V p l e (ts_rm 0 0 0) s m args below meth c g 2 0 0 (MQ below (ts_Q g (ts_Ri Q)) args s 0 0 (ts_A g)) 21 [] [] M := by
    intro   M
    unfold wX10_rankAt_B21
    refine ts_iconst C dX10_rankAt_21 (-1) rfl ?_
    exact ts_sub [] rfl (H22 _ _)
  revert h0
  unfold wX10_rankAt
  have hl0 : lv_args 0 [.ref (ts_ad g (b + 9)), ts_v p1] = [(0, .ref (ts_ad g (b + 9))), (1, ts_v p1)] := rfl
  rw [hl0]
  refine ts_iload_n C dX10_rankAt_0 rfl 1 rfl ?_
  refine ts_cm0_lt C rfl 21 dX10_rankAt_1 rfl ?_ ?_
  · exact ts_sub [] rfl (H21 _)
  · refine ts_iload_n C dX10_rankAt_4 rfl 1 rfl ?_
    refine ts_aload_n C dX10_rankAt_5 rfl 0 rfl ?_
    refine tgX10_1 hb C q_247 dX10_rankAt_6 ?_
    refine ts_cmp_ge C rfl rfl 21 dX10_rankAt_9 rfl ?_ ?_
    · exact ts_sub [] rfl (H21 _)
    · refine ts_aload_n C dX10_rankAt_12 rfl 0 rfl ?_
      refine tgX10_0 hb C q_246 dX10_rankAt_13 ?_
      refine ts_iload_n C dX10_rankAt_16 rfl 1 rfl ?_
      refine ts_iald C (ts_lt hb 10 (by decide)) (shS10 hb) dX10_rankAt_17 ?_
      refine ts_goto C 22 dX10_rankAt_18 rfl ?_
      exact ts_sub [] rfl (H22 _ _)
def wX10_topRank (b : Nat) (Q : Int → ts_M → Prop) (M : ts_M) : Prop :=
  (wX10_rankAt b ((M.1 (b + 9) 1) - 1) (fun r2 M1 => Q r2 M1) M)
set_option maxRecDepth 100000 in
set_option maxHeartbeats 4000000 in
theorem mX10_topRank {l : Launch} {g : ts_W} (hl : l.stackTraces = false) {b : Nat} (hb : ts_isS b) {Q : Int → ts_M → Prop} {M : ts_M} : wX10_topRank b Q M → ts_Con l g yX10_topRank cX10_topRank 1 (some .int) 1 0 0 [.ref (ts_ad g (b + 9))] M (ts_Ri Q) := by
  intro h0
  refine ts_Con.of hl (by decide) (Nat.le_of_ble_eq_true rfl) ?_
  intro p e s m args below meth c C
  revert h0
  unfold wX10_topRank
  have hl0 : lv_args 0 [.ref (ts_ad g (b + 9))] = [(0, .ref (ts_ad g (b + 9)))] := rfl
  rw [hl0]
  refine ts_aload_n C dX10_topRank_0 rfl 0 rfl ?_
  refine ts_aload_n C dX10_topRank_1 rfl 0 rfl ?_
  refine tgX10_1 hb C q_247 dX10_topRank_2 ?_
  refine ts_iconst C dX10_topRank_5 1 rfl ?_
  refine ts_isub C dX10_topRank_6 ?_
  refine ts_callVi C [ts_v ((M.1 (b + 9) 1) - 1)] (mX10_rankAt hl hb) kX10_rankAt q_1006 (ts_lt hb 9 (by decide)) (shX10 hb) rfl rfl rfl (Nat.le_of_ble_eq_true rfl) ⟨Nat.le_of_ble_eq_true rfl, Nat.le_of_ble_eq_true rfl⟩ ⟨Nat.le_of_ble_eq_true rfl, Nat.le_of_ble_eq_true rfl⟩ dX10_topRank_7 (fun r2 M1 => ?_)
  exact ts_ireti C (Nat.zero_le _) (Nat.zero_le _) dX10_topRank_10
def wX10_holds_L2 (b : Nat)  (Q : Int → ts_M → Prop) (k2 : Int → Int → ts_M → Prop) (y1 : Int) (y2 : Int) (M : ts_M) : Prop :=
  ((ts_w (M.1 (b + 9) 1) ≤ ts_w y2 → Q 0 M) ∧ (¬ (ts_w (M.1 (b + 9) 1) ≤ ts_w y2) → ((0 ≤ ts_w y2 ∧ ts_w y2 < ((5 : Nat) : Int)) ∧ ((¬ (ts_w (M.1 (b + 10) (ts_w y2)) = ts_w y1) → (∀ x2 : Int, x2 = y2 + 1 → k2 y1 x2 M)) ∧ (ts_w (M.1 (b + 10) (ts_w y2)) = ts_w y1 → Q 1 M)))))
def wX10_holds (b : Nat) (p1 : Int) (Q : Int → ts_M → Prop) (M : ts_M) : Prop :=
  (∀ x1 : Int, x1 = 0 → ∃ n, ts_lp2 (wX10_holds_L2 b Q) n p1 x1 M)
set_option maxRecDepth 100000 in
set_option maxHeartbeats 4000000 in
theorem mX10_holds {l : Launch} {g : ts_W} (hl : l.stackTraces = false) {b : Nat} (hb : ts_isS b) {p1 : Int} {Q : Int → ts_M → Prop} {M : ts_M} : wX10_holds b p1 Q M → ts_Con l g yX10_holds cX10_holds 3 (some .boolean) 0 0 0 [.ref (ts_ad g (b + 9)), ts_v p1] M (ts_Ri Q) := by
  intro h0
  refine ts_Con.of hl (by decide) (Nat.le_of_ble_eq_true rfl) ?_
  intro p e s m args below meth c C
  have H2 : ∀ (n : Nat) (y1 : Int) (y2 : Int) (M : ts_M), ts_lp2 (wX10_holds_L2 b  Q) n y1 y2 M → ts_V p l e (ts_rm 0 0 0) s m args below meth c g 3 0 0 (MQ below (ts_Q g (ts_Ri Q)) args s 0 0 (ts_A g)) 2 [(0, .ref (ts_ad g (b + 9))), (1, ts_v y1), (2, ts_v y2)] [] M := by
    refine ts_lpr2 (V := fun (y1 : Int) (y2 : Int) (M : ts_M) => ts_V p l e (ts_rm 0 0 0) s m args below meth c g 3 0 0 (MQ below (ts_Q g (ts_Ri Q)) args s 0 0 (ts_A g)) 2 [(0, .ref (ts_ad g (b + 9))), (1, ts_v y1), (2, ts_v y2)] [] M) ?_
    intro k2 hk2 y1 y2 M
    unfold wX10_holds_L2
    refine ts_iload_n C dX10_holds_2 rfl 2 rfl ?_
    refine ts_aload_n C dX10_holds_3 rfl 0 rfl ?_
    refine tgX10_1 hb C q_247 dX10_holds_4 ?_
    refine ts_cmp_ge C rfl rfl 28 dX10_holds_7 rfl ?_ ?_
    · refine ts_iconst C dX10_holds_28 0 rfl ?_
      exact ts_zretci C (by decide) (Nat.zero_le _) (Nat.zero_le _) dX10_holds_29
    · refine ts_aload_n C dX10_holds_10 rfl 0 rfl ?_
      refine tgX10_0 hb C q_246 dX10_holds_11 ?_
      refine ts_iload_n C dX10_holds_14 rfl 2 rfl ?_
      refine ts_iald C (ts_lt hb 10 (by decide)) (shS10 hb) dX10_holds_15 ?_
      refine ts_iload_n C dX10_holds_16 rfl 1 rfl ?_
      refine ts_cmp_ne C rfl rfl 22 dX10_holds_17 rfl ?_ ?_
      · refine ts_iinc C dX10_holds_22 2 rfl (by decide) (lv' := fun x2 => [(2, ts_v x2), (0, .ref (ts_ad g (b + 9))), (1, ts_v y1)]) (fun _ => rfl) (fun x2 => ?_)
        refine ts_goto C 2 dX10_holds_25 rfl ?_
        exact ts_sub [1, 2, 0] rfl (hk2 _ _ _)
      · refine ts_iconst C dX10_holds_20 1 rfl ?_
        exact ts_zretci C (by decide) (Nat.zero_le _) (Nat.zero_le _) dX10_holds_21
  revert h0
  unfold wX10_holds
  have hl0 : lv_args 0 [.ref (ts_ad g (b + 9)), ts_v p1] = [(0, .ref (ts_ad g (b + 9))), (1, ts_v p1)] := rfl
  rw [hl0]
  refine ts_iconst C dX10_holds_0 0 rfl ?_
  refine ts_istore_n C dX10_holds_1 rfl (by decide) (lv' := fun x1 => [(2, ts_v x1), (0, .ref (ts_ad g (b + 9))), (1, ts_v p1)]) (fun _ => rfl) (fun x1 => ?_)
  rintro ⟨n, hn⟩
  exact ts_sub [1, 2, 0] rfl (H2 n _ _ _) hn
