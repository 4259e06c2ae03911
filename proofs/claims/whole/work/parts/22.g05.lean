def wX7_takePart_B66   (Q : Int → ts_M → Prop)  (z0 : Int) (z1 : Int) (M : ts_M) : Prop :=
  (wX7_takeNumber z1 z0 (fun r8 M7 => ((ts_w r8 = 0 ∨ ts_w r8 = 1) ∧ Q r8 M7)) M)
def wX7_takePart (p1 : Int) (Q : Int → ts_M → Prop) (M : ts_M) : Prop :=
  ((ts_w p1 = 68 → (wX7_takeNumber 1 1 (fun r2 M1 => ((ts_w r2 = 0 ∨ ts_w r2 = 1) ∧ Q r2 M1)) M)) ∧ (¬ (ts_w p1 = 68) → ((ts_w p1 = 78 → (wX7_takeNumber 2 1 (fun r4 M3 => ((ts_w r4 = 0 ∨ ts_w r4 = 1) ∧ Q r4 M3)) M)) ∧ (¬ (ts_w p1 = 78) → ((ts_w p1 = 83 → (wX7_take 45 (fun r6 M5 => ((ts_w r6 = 0 → wX7_takePart_B66 Q 1 2 M5) ∧ (¬ (ts_w r6 = 0) → wX7_takePart_B66 Q (-1) 2 M5))) M)) ∧ (¬ (ts_w p1 = 83) → (wX7_take p1 (fun r10 M9 => ((ts_w r10 = 0 ∨ ts_w r10 = 1) ∧ Q r10 M9)) M)))))))
set_option maxRecDepth 100000 in
set_option maxHeartbeats 4000000 in
theorem mX7_takePart {l : Launch} {g : ts_W} (hl : l.stackTraces = false) {p1 : Int} {Q : Int → ts_M → Prop} {M : ts_M} : wX7_takePart p1 Q M → ts_Con l g yX7_takePart cX7_takePart 2 (some .boolean) 2 0 0 [.ref (ts_ad g 160), ts_v p1] M (ts_Ri Q) := by
  intro h0
  refine ts_Con.of hl (by decide) (Nat.le_of_ble_eq_true rfl) ?_
  intro p e s m args below meth c C
  have H66 : ∀ (z0 : Int) (z1 : Int) (M : ts_M), wX7_takePart_B66   Q z0 z1 M → ts_V p l e (ts_rm 2 0 0) s m args below meth c g 2 0 0 (MQ below (ts_Q g (ts_Ri Q)) args s 0 0 (ts_A g)) 66 [] [ts_v z0, ts_v z1, .ref (ts_ad g 160)] M := by
    intro  z0 z1 M
    unfold wX7_takePart_B66
    refine ts_callVi C [ts_v z1, ts_v z0] (mX7_takeNumber hl) kX7_takeNumber q_1875 (by decide) shX7 rfl rfl rfl (Nat.le_of_ble_eq_true rfl) ⟨Nat.le_of_ble_eq_true rfl, Nat.le_of_ble_eq_true rfl⟩ ⟨Nat.le_of_ble_eq_true rfl, Nat.le_of_ble_eq_true rfl⟩ dX7_takePart_66 (fun r8 M7 => ?_)
    exact ts_zreti C (Nat.zero_le _) (Nat.zero_le _) dX7_takePart_69
  revert h0
  unfold wX7_takePart
  have hl0 : lv_args 0 [.ref (ts_ad g 160), ts_v p1] = [(0, .ref (ts_ad g 160)), (1, ts_v p1)] := rfl
  rw [hl0]
  refine ts_iload_n C dX7_takePart_0 rfl 1 rfl ?_
  refine ts_case rfl 68 (fun e0 => ?_) (fun e0 => ?_)
  · refine ts_lookup C 68 35 e0 36 dX7_takePart_1 (by decide) (by decide) rfl ?_
    refine ts_aload_n C dX7_takePart_36 rfl 0 rfl ?_
    refine ts_iconst C dX7_takePart_37 1 rfl ?_
    refine ts_iconst C dX7_takePart_38 1 rfl ?_
    refine ts_callVi C [ts_v 1, ts_v 1] (mX7_takeNumber hl) kX7_takeNumber q_1875 (by decide) shX7 rfl rfl rfl (Nat.le_of_ble_eq_true rfl) ⟨Nat.le_of_ble_eq_true rfl, Nat.le_of_ble_eq_true rfl⟩ ⟨Nat.le_of_ble_eq_true rfl, Nat.le_of_ble_eq_true rfl⟩ dX7_takePart_39 (fun r2 M1 => ?_)
    exact ts_zreti C (Nat.zero_le _) (Nat.zero_le _) dX7_takePart_42
  · refine ts_case rfl 78 (fun e1 => ?_) (fun e1 => ?_)
    · refine ts_lookup C 78 42 e1 43 dX7_takePart_1 (by decide) (by decide) rfl ?_
      refine ts_aload_n C dX7_takePart_43 rfl 0 rfl ?_
      refine ts_iconst C dX7_takePart_44 2 rfl ?_
      refine ts_iconst C dX7_takePart_45 1 rfl ?_
      refine ts_callVi C [ts_v 2, ts_v 1] (mX7_takeNumber hl) kX7_takeNumber q_1875 (by decide) shX7 rfl rfl rfl (Nat.le_of_ble_eq_true rfl) ⟨Nat.le_of_ble_eq_true rfl, Nat.le_of_ble_eq_true rfl⟩ ⟨Nat.le_of_ble_eq_true rfl, Nat.le_of_ble_eq_true rfl⟩ dX7_takePart_46 (fun r4 M3 => ?_)
      exact ts_zreti C (Nat.zero_le _) (Nat.zero_le _) dX7_takePart_49
    · refine ts_case rfl 83 (fun e2 => ?_) (fun e2 => ?_)
      · refine ts_lookup C 83 49 e2 50 dX7_takePart_1 (by decide) (by decide) rfl ?_
        refine ts_aload_n C dX7_takePart_50 rfl 0 rfl ?_
        refine ts_iconst C dX7_takePart_51 2 rfl ?_
        refine ts_aload_n C dX7_takePart_52 rfl 0 rfl ?_
        refine ts_bipush C dX7_takePart_53 45 tb_45 ?_
        refine ts_callVi C [ts_v 45] (mX7_take hl) kX7_take q_1884 (by decide) shX7 rfl rfl rfl (Nat.le_of_ble_eq_true rfl) ⟨Nat.le_of_ble_eq_true rfl, Nat.le_of_ble_eq_true rfl⟩ ⟨Nat.le_of_ble_eq_true rfl, Nat.le_of_ble_eq_true rfl⟩ dX7_takePart_55 (fun r6 M5 => ?_)
        refine ts_cm0_eq C rfl 65 dX7_takePart_58 rfl ?_ ?_
        · refine ts_iconst C dX7_takePart_65 1 rfl ?_
          exact ts_sub [] rfl (H66 _ _ _)
        · refine ts_iconst C dX7_takePart_61 (-1) rfl ?_
          refine ts_goto C 66 dX7_takePart_62 rfl ?_
          exact ts_sub [] rfl (H66 _ _ _)
      · refine ts_lookup C _ 69 rfl 70 dX7_takePart_1 (by decide) (by show Op.lookupswitch.offset [(68, 35), (78, 42), (83, 49)] 69 _ = 69; rw [Op.lookupswitch.offset_cons, if_neg (Ne.symm e0), Op.lookupswitch.offset_cons, if_neg (Ne.symm e1), Op.lookupswitch.offset_cons, if_neg (Ne.symm e2), Op.lookupswitch.offset_nil]) rfl ?_
        refine ts_aload_n C dX7_takePart_70 rfl 0 rfl ?_
        refine ts_iload_n C dX7_takePart_71 rfl 1 rfl ?_
        refine ts_callVi C [ts_v p1] (mX7_take hl) kX7_take q_1884 (by decide) shX7 rfl rfl rfl (Nat.le_of_ble_eq_true rfl) ⟨Nat.le_of_ble_eq_true rfl, Nat.le_of_ble_eq_true rfl⟩ ⟨Nat.le_of_ble_eq_true rfl, Nat.le_of_ble_eq_true rfl⟩ dX7_takePart_72 (fun r10 M9 => ?_)
        exact ts_zreti C (Nat.zero_le _) (Nat.zero_le _) dX7_takePart_75
def wX9_rewardYesVoters_B36 (b : Nat) (k7 : Int → Int → ts_M → Prop) (Q : ts_M → Prop)  (y1 : Int) (y2 : Int) (M : ts_M) : Prop :=
  (∀ x7 : Int, x7 = y2 + 1 → k7 y1 x7 M)
def wX9_rewardYesVoters_L7 (b : Nat)  (Q : ts_M → Prop) (k7 : Int → Int → ts_M → Prop) (y1 : Int) (y2 : Int) (M : ts_M) : Prop :=
  ((ts_w (M.1 (b + 1) 4) ≤ ts_w y2 → Q M) ∧ (¬ (ts_w (M.1 (b + 1) 4) ≤ ts_w y2) → (wX9_saysYes b y2 y1 (fun r6 M5 => ((ts_w r6 = 0 → wX9_rewardYesVoters_B36 b k7 Q y1 y2 M5) ∧ (¬ (ts_w r6 = 0) → (wX8_gain b y2 2 (fun M8 => wX9_rewardYesVoters_B36 b k7 Q y1 y2 M8) M5)))) M)))
def wX9_rewardYesVoters (b : Nat) (Q : ts_M → Prop) (M : ts_M) : Prop :=
  (wX9_mainPosition b (fun r2 M1 => (∀ x3 : Int, x3 = r2 → (∀ x4 : Int, x4 = 0 → ∃ n, ts_lp2 (wX9_rewardYesVoters_L7 b Q) n x3 x4 M1))) M)
set_option maxRecDepth 100000 in
set_option maxHeartbeats 4000000 in
theorem mX9_rewardYesVoters {l : Launch} {g : ts_W} (hl : l.stackTraces = false) {b : Nat} (hb : ts_isS b) {Q : ts_M → Prop} {M : ts_M} : wX9_rewardYesVoters b Q M → ts_Con l g yX9_rewardYesVoters cX9_rewardYesVoters 3 none 3 0 0 [.ref (ts_ad g b)] M (ts_Rv Q) := by
  intro h0
  refine ts_Con.of hl (by decide) (Nat.le_of_ble_eq_true rfl) ?_
  intro p e s m args below meth c C
  have H36 : ∀ (k7 : Int → Int → ts_M → Prop) (hk7 : ∀ (y1 : Int) (y2 : Int) (M : ts_M), k7 y1 y2 M → ts_V p l e (ts_rm 3 0 0) s m args below meth c g 3 0 0 (MQ below (ts_Q g (ts_Rv Q)) args s 0 0 (ts_A g)) 7 [(0, .ref (ts_ad g b)), (1, ts_v y1), (2, ts_v y2)] [] M) (y1 : Int) (y2 : Int) (M : ts_M), wX9_rewardYesVoters_B36 b k7 Q y1 y2 M → ts_V p l e (ts_rm 3 0 0) s m args below meth c g 3 0 0 (MQ below (ts_Q g (ts_Rv Q)) args s 0 0 (ts_A g)) 36 [(0, .ref (ts_ad g b)), (1, ts_v y1), (2, ts_v y2)] [] M := by
    intro k7 hk7 y1 y2 M
    unfold wX9_rewardYesVoters_B36
    refine ts_iinc C dX9_rewardYesVoters_36 2 rfl (by decide) (lv' := fun x7 => [(2, ts_v x7), (0, .ref (ts_ad g b)), (1, ts_v y1)]) (fun _ => rfl) (fun x7 => ?_)
    refine ts_goto C 7 dX9_rewardYesVoters_39 rfl ?_
    exact ts_sub [1, 2, 0] rfl (hk7 _ _ _)
  have H7 : ∀ (n : Nat) (y1 : Int) (y2 : Int) (M : ts_M), ts_lp2 (wX9_rewardYesVoters_L7 b  Q) n y1 y2 M → ts_V p l e (ts_rm 3 0 0) s m args below meth c g 3 0 0 (MQ below (ts_Q g (ts_Rv Q)) args s 0 0 (ts_A g)) 7 [(0, .ref (ts_ad g b)), (1, ts_v y1), (2, ts_v y2)] [] M := by
    refine ts_lpr2 (V := fun (y1 : Int) (y2 : Int) (M : ts_M) => ts_V p l e (ts_rm 3 0 0) s m args below meth c g 3 0 0 (MQ below (ts_Q g (ts_Rv Q)) args s 0 0 (ts_A g)) 7 [(0, .ref (ts_ad g b)), (1, ts_v y1), (2, ts_v y2)] [] M) ?_
    intro k7 hk7 y1 y2 M
    unfold wX9_rewardYesVoters_L7
    refine ts_iload_n C dX9_rewardYesVoters_7 rfl 2 rfl ?_
    refine ts_aload_n C dX9_rewardYesVoters_8 rfl 0 rfl ?_
    refine tgX9_0 hb C q_289 dX9_rewardYesVoters_9 ?_
    refine tgX8_4 hb C q_191 dX9_rewardYesVoters_12 ?_
    refine ts_cmp_ge C rfl rfl 42 dX9_rewardYesVoters_15 rfl ?_ ?_
    · exact ts_vreti C (Nat.zero_le _) (Nat.zero_le _) dX9_rewardYesVoters_42
    · refine ts_aload_n C dX9_rewardYesVoters_18 rfl 0 rfl ?_
      refine ts_iload_n C dX9_rewardYesVoters_19 rfl 2 rfl ?_
      refine ts_iload_n C dX9_rewardYesVoters_20 rfl 1 rfl ?_
      refine ts_callVi C [ts_v y2, ts_v y1] (mX9_saysYes hl hb) kX9_saysYes q_1299 (ts_lt0 hb) (shX9 hb) rfl rfl rfl (Nat.le_of_ble_eq_true rfl) ⟨Nat.le_of_ble_eq_true rfl, Nat.le_of_ble_eq_true rfl⟩ ⟨Nat.le_of_ble_eq_true rfl, Nat.le_of_ble_eq_true rfl⟩ dX9_rewardYesVoters_21 (fun r6 M5 => ?_)
      refine ts_cm0_eq C rfl 36 dX9_rewardYesVoters_24 rfl ?_ ?_
      · exact ts_sub [0, 1, 2] rfl (H36 k7 hk7 _ _ _)
      · refine ts_aload_n C dX9_rewardYesVoters_27 rfl 0 rfl ?_
        refine tgX9_0 hb C q_289 dX9_rewardYesVoters_28 ?_
        refine ts_iload_n C dX9_rewardYesVoters_31 rfl 2 rfl ?_
        refine ts_iconst C dX9_rewardYesVoters_32 2 rfl ?_
        refine ts_callVv C [ts_v y2, ts_v 2] (mX8_gain hl hb) kX8_gain q_1322 (ts_lt hb 1 (by decide)) (shX8 hb) rfl rfl rfl (Nat.le_of_ble_eq_true rfl) ⟨Nat.le_of_ble_eq_true rfl, Nat.le_of_ble_eq_true rfl⟩ ⟨Nat.le_of_ble_eq_true rfl, Nat.le_of_ble_eq_true rfl⟩ dX9_rewardYesVoters_33 (fun M8 => ?_)
        exact ts_sub [0, 1, 2] rfl (H36 k7 hk7 _ _ _)
  revert h0
  unfold wX9_rewardYesVoters
  have hl0 : lv_args 0 [.ref (ts_ad g b)] = [(0, .ref (ts_ad g b))] := rfl
  rw [hl0]
  refine ts_aload_n C dX9_rewardYesVoters_0 rfl 0 rfl ?_
  refine ts_callVi C [] (mX9_mainPosition hl hb) kX9_mainPosition q_1290 (ts_lt0 hb) (shX9 hb) rfl rfl rfl (Nat.le_of_ble_eq_true rfl) ⟨Nat.le_of_ble_eq_true rfl, Nat.le_of_ble_eq_true rfl⟩ ⟨Nat.le_of_ble_eq_true rfl, Nat.le_of_ble_eq_true rfl⟩ dX9_rewardYesVoters_1 (fun r2 M1 => ?_)
  refine ts_istore_n C dX9_rewardYesVoters_4 rfl (by decide) (lv' := fun x3 => [(1, ts_v x3), (0, .ref (ts_ad g b))]) (fun _ => rfl) (fun x3 => ?_)
  refine ts_iconst C dX9_rewardYesVoters_5 0 rfl ?_
  refine ts_istore_n C dX9_rewardYesVoters_6 rfl (by decide) (lv' := fun x4 => [(2, ts_v x4), (1, ts_v x3), (0, .ref (ts_ad g b))]) (fun _ => rfl) (fun x4 => ?_)
  rintro ⟨n, hn⟩
  exact ts_sub [2, 1, 0] rfl (H7 n _ _ _) hn
def wX9_takeEffect_B99 (b : Nat)  (Q : ts_M → Prop)   (M : ts_M) : Prop :=
  Q M
def wX9_takeEffect (b : Nat) (p1 : Int) (Q : ts_M → Prop) (M : ts_M) : Prop :=
  ((ts_w p1 = 1 → (wX9_mainPosition b (fun r2 M1 => (wX9_amended b r2 (fun r4 M3 => (wX4_setPosition b (M.1 (b + 9) 2) r4 (fun M5 => wX9_takeEffect_B99 b Q M5) M3)) M1)) M)) ∧ (¬ (ts_w p1 = 1) → ((ts_w p1 = 2 → (wX10_clear b (fun M6 => (wX4_moveToEnd b (M6.1 (b + 9) 2) (fun M7 => wX9_takeEffect_B99 b Q M7) M6)) M)) ∧ (¬ (ts_w p1 = 2) → ((ts_w p1 = 3 → (∀ M8, M8 = ts_si M (b + 9) 4 1 → wX9_takeEffect_B99 b Q M8)) ∧ (¬ (ts_w p1 = 3) → ((ts_w p1 = 4 → (wX9_endSitting b (fun M9 => wX9_takeEffect_B99 b Q M9) M)) ∧ (¬ (ts_w p1 = 4) → wX9_takeEffect_B99 b Q M))))))))
set_option maxRecDepth 100000 in
set_option maxHeartbeats 4000000 in
theorem mX9_takeEffect {l : Launch} {g : ts_W} (hl : l.stackTraces = false) {b : Nat} (hb : ts_isS b) {p1 : Int} {Q : ts_M → Prop} {M : ts_M} : wX9_takeEffect b p1 Q M → ts_Con l g yX9_takeEffect cX9_takeEffect 2 none 3 0 0 [.ref (ts_ad g b), ts_v p1] M (ts_Rv Q) := by
  intro h0
  refine ts_Con.of hl (by decide) (Nat.le_of_ble_eq_true rfl) ?_
  intro p e s m args below meth c C
  have H99 : ∀  (M : ts_M), wX9_takeEffect_B99 b  Q  M → ts_V p l e (ts_rm 3 0 0) s m args below meth c g 2 0 0 (MQ below (ts_Q g (ts_Rv Q)) args s 0 0 (ts_A g)) 99 [] [] M := by
    intro   M
    unfold wX9_takeEffect_B99
    exact ts_vreti C (Nat.zero_le _) (Nat.zero_le _) dX9_takeEffect_99
  revert h0
  unfold wX9_takeEffect
  have hl0 : lv_args 0 [.ref (ts_ad g b), ts_v p1] = [(0, .ref (ts_ad g b)), (1, ts_v p1)] := rfl
  rw [hl0]
  refine ts_iload_n C dX9_takeEffect_0 rfl 1 rfl ?_
  refine ts_case rfl 1 (fun e0 => ?_) (fun e0 => ?_)
  · refine ts_tabIn C 1 e0 32 dX9_takeEffect_1 (by decide) (by decide) rfl rfl ?_
    refine ts_aload_n C dX9_takeEffect_32 rfl 0 rfl ?_
    refine tgX9_1 hb C q_292 dX9_takeEffect_33 ?_
    refine ts_aload_n C dX9_takeEffect_36 rfl 0 rfl ?_
    refine tgX9_2 hb C q_295 dX9_takeEffect_37 ?_
    refine tgX10_2 hb C q_251 dX9_takeEffect_40 ?_
    refine ts_aload_n C dX9_takeEffect_43 rfl 0 rfl ?_
    refine ts_aload_n C dX9_takeEffect_44 rfl 0 rfl ?_
    refine ts_callVi C [] (mX9_mainPosition hl hb) kX9_mainPosition q_1290 (ts_lt0 hb) (shX9 hb) rfl rfl rfl (Nat.le_of_ble_eq_true rfl) ⟨Nat.le_of_ble_eq_true rfl, Nat.le_of_ble_eq_true rfl⟩ ⟨Nat.le_of_ble_eq_true rfl, Nat.le_of_ble_eq_true rfl⟩ dX9_takeEffect_45 (fun r2 M1 => ?_)
    refine ts_callVi C [ts_v r2] (mX9_amended hl hb) kX9_amended q_1304 (ts_lt0 hb) (shX9 hb) rfl rfl rfl (Nat.le_of_ble_eq_true rfl) ⟨Nat.le_of_ble_eq_true rfl, Nat.le_of_ble_eq_true rfl⟩ ⟨Nat.le_of_ble_eq_true rfl, Nat.le_of_ble_eq_true rfl⟩ dX9_takeEffect_48 (fun r4 M3 => ?_)
    refine ts_callVv C [ts_v (M.1 (b + 9) 2), ts_v r4] (mX4_setPosition hl hb) kX4_setPosition q_1343 (ts_lt hb 6 (by decide)) (shX4 hb) rfl rfl rfl (Nat.le_of_ble_eq_true rfl) ⟨Nat.le_of_ble_eq_true rfl, Nat.le_of_ble_eq_true rfl⟩ ⟨Nat.le_of_ble_eq_true rfl, Nat.le_of_ble_eq_true rfl⟩ dX9_takeEffect_51 (fun M5 => ?_)
    refine ts_goto C 99 dX9_takeEffect_54 rfl ?_
    exact ts_sub [] rfl (H99 _)
  · refine ts_case rfl 2 (fun e1 => ?_) (fun e1 => ?_)
    · refine ts_tabIn C 2 e1 57 dX9_takeEffect_1 (by decide) (by decide) rfl rfl ?_
      refine ts_aload_n C dX9_takeEffect_57 rfl 0 rfl ?_
      refine tgX9_2 hb C q_295 dX9_takeEffect_58 ?_
      refine ts_callVv C [] (mX10_clear hl hb) kX10_clear q_1347 (ts_lt hb 9 (by decide)) (shX10 hb) rfl rfl rfl (Nat.le_of_ble_eq_true rfl) ⟨Nat.le_of_ble_eq_true rfl, Nat.le_of_ble_eq_true rfl⟩ ⟨Nat.le_of_ble_eq_true rfl, Nat.le_of_ble_eq_true rfl⟩ dX9_takeEffect_61 (fun M6 => ?_)
      refine ts_aload_n C dX9_takeEffect_64 rfl 0 rfl ?_
      refine tgX9_1 hb C q_292 dX9_takeEffect_65 ?_
      refine ts_aload_n C dX9_takeEffect_68 rfl 0 rfl ?_
      refine tgX9_2 hb C q_295 dX9_takeEffect_69 ?_
      refine tgX10_2 hb C q_251 dX9_takeEffect_72 ?_
      refine ts_callVv C [ts_v (M6.1 (b + 9) 2)] (mX4_moveToEnd hl hb) kX4_moveToEnd q_1351 (ts_lt hb 6 (by decide)) (shX4 hb) rfl rfl rfl (Nat.le_of_ble_eq_true rfl) ⟨Nat.le_of_ble_eq_true rfl, Nat.le_of_ble_eq_true rfl⟩ ⟨Nat.le_of_ble_eq_true rfl, Nat.le_of_ble_eq_true rfl⟩ dX9_takeEffect_75 (fun M7 => ?_)
      refine ts_goto C 99 dX9_takeEffect_78 rfl ?_
      exact ts_sub [] rfl (H99 _)
    · refine ts_case rfl 3 (fun e2 => ?_) (fun e2 => ?_)
      · refine ts_tabIn C 3 e2 81 dX9_takeEffect_1 (by decide) (by decide) rfl rfl ?_
        refine ts_aload_n C dX9_takeEffect_81 rfl 0 rfl ?_
        refine tgX9_2 hb C q_295 dX9_takeEffect_82 ?_
        refine ts_iconst C dX9_takeEffect_85 1 rfl ?_
        refine tpX10_4c hb C (by decide) q_257 dX9_takeEffect_86 (fun M8 => ?_)
        refine ts_goto C 99 dX9_takeEffect_89 rfl ?_
        exact ts_sub [] rfl (H99 _)
      · refine ts_case rfl 4 (fun e3 => ?_) (fun e3 => ?_)
        · refine ts_tabIn C 4 e3 92 dX9_takeEffect_1 (by decide) (by decide) rfl rfl ?_
          refine ts_aload_n C dX9_takeEffect_92 rfl 0 rfl ?_
          refine ts_callVv C [] (mX9_endSitting hl hb) kX9_endSitting q_1357 (ts_lt0 hb) (shX9 hb) rfl rfl rfl (Nat.le_of_ble_eq_true rfl) ⟨Nat.le_of_ble_eq_true rfl, Nat.le_of_ble_eq_true rfl⟩ ⟨Nat.le_of_ble_eq_true rfl, Nat.le_of_ble_eq_true rfl⟩ dX9_takeEffect_93 (fun M9 => ?_)
          refine ts_goto C 99 dX9_takeEffect_96 rfl ?_
          exact ts_sub [] rfl (H99 _)
        · refine ts_tabOut C 99 dX9_takeEffect_1 (by omega) rfl ?_
          exact ts_sub [] rfl (H99 _)
def wX9_yesWeight_B41 (b : Nat) (k9 : Int → Int → Int → ts_M → Prop) (Q : Int → ts_M → Prop)  (y1 : Int) (y2 : Int) (y3 : Int) (M : ts_M) : Prop :=
  (∀ x8 : Int, x8 = y3 + 1 → k9 y1 y2 x8 M)
def wX9_yesWeight_L9 (b : Nat)  (Q : Int → ts_M → Prop) (k9 : Int → Int → Int → ts_M → Prop) (y1 : Int) (y2 : Int) (y3 : Int) (M : ts_M) : Prop :=
  ((ts_w (M.1 (b + 1) 4) ≤ ts_w y3 → Q y2 M) ∧ (¬ (ts_w (M.1 (b + 1) 4) ≤ ts_w y3) → (wX9_saysYes b y3 y1 (fun r7 M6 => ((ts_w r7 = 0 → wX9_yesWeight_B41 b k9 Q y1 y2 y3 M6) ∧ (¬ (ts_w r7 = 0) → ((0 ≤ ts_w y3 ∧ ts_w y3 < ((8 : Nat) : Int)) ∧ (∀ x9 : Int, x9 = y2 + (M6.1 (b + 2) (ts_w y3)) → wX9_yesWeight_B41 b k9 Q y1 x9 y3 M6))))) M)))
def wX9_yesWeight (b : Nat) (Q : Int → ts_M → Prop) (M : ts_M) : Prop :=
  (wX9_mainPosition b (fun r2 M1 => (∀ x3 : Int, x3 = r2 → (∀ x4 : Int, x4 = 0 → (∀ x5 : Int, x5 = 0 → ∃ n, ts_lp3 (wX9_yesWeight_L9 b Q) n x3 x4 x5 M1)))) M)
set_option maxRecDepth 100000 in
set_option maxHeartbeats 4000000 in
theorem mX9_yesWeight {l : Launch} {g : ts_W} (hl : l.stackTraces = false) {b : Nat} (hb : ts_isS b) {Q : Int → ts_M → Prop} {M : ts_M} : wX9_yesWeight b Q M → ts_Con l g yX9_yesWeight cX9_yesWeight 4 (some .int) 3 0 0 [.ref (ts_ad g b)] M (ts_Ri Q) := by
  intro h0
  refine ts_Con.of hl (by decide) (Nat.le_of_ble_eq_true rfl) ?_
  intro p e s m args below meth c C
  have H41 : ∀ (k9 : Int → Int → Int → ts_M → Prop) (hk9 : ∀ (y1 : Int) (y2 : Int) (y3 : Int) (M : ts_M), k9 y1 y2 y3 M → ts_V p l e (ts_rm 3 0 0) s m args below meth c g 4 0 0 (MQ below (ts_Q g (ts_Ri Q)) args s 0 0 (ts_A g)) 9 [(0, .ref (ts_ad g b)), (1, ts_v y1), (2, ts_v y2), (3, ts_v y3)] [] M) (y1 : Int) (y2 : Int) (y3 : Int) (M : ts_M), wX9_yesWeight_B41 b k9 Q y1 y2 y3 M → ts_V p l e (ts_rm 3 0 0) s m args below meth c g 4 0 0 (MQ below (ts_Q g (ts_Ri Q)) args s 0 0 (ts_A g)) 41 [(0, .ref (ts_ad g b)), (1, ts_v y1), (2, ts_v y2), (3, ts_v y3)] [] M := by
    intro k9 hk9 y1 y2 y3 M
    unfold wX9_yesWeight_B41
    refine ts_iinc C dX9_yesWeight_41 3 rfl (by decide) (lv' := fun x8 => [(3, ts_v x8), (0, .ref (ts_ad g b)), (1, ts_v y1), (2, ts_v y2)]) (fun _ => rfl) (fun x8 => ?_)
    refine ts_goto C 9 dX9_yesWeight_44 rfl ?_
    exact ts_sub [1, 2, 3, 0] rfl (hk9 _ _ _ _)
  have H9 : ∀ (n : Nat) (y1 : Int) (y2 : Int) (y3 : Int) (M : ts_M), ts_lp3 (wX9_yesWeight_L9 b  Q) n y1 y2 y3 M → ts_V p l e (ts_rm 3 0 0) s m args below meth c g 4 0 0 (MQ below (ts_Q g (ts_Ri Q)) args s 0 0 (ts_A g)) 9 [(0, .ref (ts_ad g b)), (1, ts_v y1), (2, ts_v y2), (3, ts_v y3)] [] M := by
    refine ts_lpr3 (V := fun (y1 : Int) (y2 : Int) (y3 : Int) (M : ts_M) => ts_V p l e (ts_rm 3 0 0) s m args below meth c g 4 0 0 (MQ below (ts_Q g (ts_Ri Q)) args s 0 0 (ts_A g)) 9 [(0, .ref (ts_ad g b)), (1, ts_v y1), (2, ts_v y2), (3, ts_v y3)] [] M) ?_
    intro k9 hk9 y1 y2 y3 M
    unfold wX9_yesWeight_L9
    refine ts_iload_n C dX9_yesWeight_9 rfl 3 rfl ?_
    refine ts_aload_n C dX9_yesWeight_10 rfl 0 rfl ?_
    refine tgX9_0 hb C q_289 dX9_yesWeight_11 ?_
    refine tgX8_4 hb C q_191 dX9_yesWeight_14 ?_
    refine ts_cmp_ge C rfl rfl 47 dX9_yesWeight_17 rfl ?_ ?_
    · refine ts_iload_n C dX9_yesWeight_47 rfl 2 rfl ?_
      exact ts_ireti C (Nat.zero_le _) (Nat.zero_le _) dX9_yesWeight_48
    · refine ts_aload_n C dX9_yesWeight_20 rfl 0 rfl ?_
      refine ts_iload_n C dX9_yesWeight_21 rfl 3 rfl ?_
      refine ts_iload_n C dX9_yesWeight_22 rfl 1 rfl ?_
      refine ts_callVi C [ts_v y3, ts_v y1] (mX9_saysYes hl hb) kX9_saysYes q_1299 (ts_lt0 hb) (shX9 hb) rfl rfl rfl (Nat.le_of_ble_eq_true rfl) ⟨Nat.le_of_ble_eq_true rfl, Nat.le_of_ble_eq_true rfl⟩ ⟨Nat.le_of_ble_eq_true rfl, Nat.le_of_ble_eq_true rfl⟩ dX9_yesWeight_23 (fun r7 M6 => ?_)
      refine ts_cm0_eq C rfl 41 dX9_yesWeight_26 rfl ?_ ?_
      · exact ts_sub [0, 1, 2, 3] rfl (H41 k9 hk9 _ _ _ _)
      · refine ts_iload_n C dX9_yesWeight_29 rfl 2 rfl ?_
        refine ts_aload_n C dX9_yesWeight_30 rfl 0 rfl ?_
        refine tgX9_0 hb C q_289 dX9_yesWeight_31 ?_
        refine tgX8_0 hb C q_180 dX9_yesWeight_34 ?_
        refine ts_iload_n C dX9_yesWeight_37 rfl 3 rfl ?_
        refine ts_iald C (ts_lt hb 2 (by decide)) (shS2 hb) dX9_yesWeight_38 ?_
        refine ts_iadd C dX9_yesWeight_39 ?_
        refine ts_istore_n C dX9_yesWeight_40 rfl (by decide) (lv' := fun x9 => [(2, ts_v x9), (0, .ref (ts_ad g b)), (1, ts_v y1), (3, ts_v y3)]) (fun _ => rfl) (fun x9 => ?_)
        exact ts_sub [1, 2, 0, 3] rfl (H41 k9 hk9 _ _ _ _)
  revert h0
  unfold wX9_yesWeight
  have hl0 : lv_args 0 [.ref (ts_ad g b)] = [(0, .ref (ts_ad g b))] := rfl
  rw [hl0]
  refine ts_aload_n C dX9_yesWeight_0 rfl 0 rfl ?_
  refine ts_callVi C [] (mX9_mainPosition hl hb) kX9_mainPosition q_1290 (ts_lt0 hb) (shX9 hb) rfl rfl rfl (Nat.le_of_ble_eq_true rfl) ⟨Nat.le_of_ble_eq_true rfl, Nat.le_of_ble_eq_true rfl⟩ ⟨Nat.le_of_ble_eq_true rfl, Nat.le_of_ble_eq_true rfl⟩ dX9_yesWeight_1 (fun r2 M1 => ?_)
  refine ts_istore_n C dX9_yesWeight_4 rfl (by decide) (lv' := fun x3 => [(1, ts_v x3), (0, .ref (ts_ad g b))]) (fun _ => rfl) (fun x3 => ?_)
  refine ts_iconst C dX9_yesWeight_5 0 rfl ?_
  refine ts_istore_n C dX9_yesWeight_6 rfl (by decide) (lv' := fun x4 => [(2, ts_v x4), (1, ts_v x3), (0, .ref (ts_ad g b))]) (fun _ => rfl) (fun x4 => ?_)
  refine ts_iconst C dX9_yesWeight_7 0 rfl ?_
  refine ts_istore_n C dX9_yesWeight_8 rfl (by decide) (lv' := fun x5 => [(3, ts_v x5), (2, ts_v x4), (1, ts_v x3), (0, .ref (ts_ad g b))]) (fun _ => rfl) (fun x5 => ?_)
  rintro ⟨n, hn⟩
  exact ts_sub [3, 2, 1, 0] rfl (H9 n _ _ _ _) hn
def wX11_fewestDisagreements (Q : Int → ts_M → Prop) (M : ts_M) : Prop :=
  (wX5_survey 0 (fun M1 => (wX5_fewestByTable  (fun r3 M2 => Q r3 M2) M1)) M)
set_option maxRecDepth 100000 in
set_option maxHeartbeats 4000000 in
theorem mX11_fewestDisagreements {l : Launch} {g : ts_W} (hl : l.stackTraces = false) {Q : Int → ts_M → Prop} {M : ts_M} : wX11_fewestDisagreements Q M → ts_Con l g yX11_fewestDisagreements cX11_fewestDisagreements 1 (some .int) 5 0 0 [.ref (ts_ad g 154)] M (ts_Ri Q) := by
  intro h0
  refine ts_Con.of hl (by decide) (Nat.le_of_ble_eq_true rfl) ?_
  intro p e s m args below meth c C
  revert h0
  unfold wX11_fewestDisagreements
  have hl0 : lv_args 0 [.ref (ts_ad g 154)] = [(0, .ref (ts_ad g 154))] := rfl
  rw [hl0]
  refine ts_aload_n C dX11_fewestDisagreements_0 rfl 0 rfl ?_
  refine tgX11_4 C q_432 dX11_fewestDisagreements_1 ?_
  refine ts_aload_n C dX11_fewestDisagreements_4 rfl 0 rfl ?_
  refine tgX11_0 C q_428 dX11_fewestDisagreements_5 ?_
  refine ts_callVv C [.ref (ts_ad g 0)] (mX5_survey hl ts_iS0) kX5_survey q_479 (by decide) shX5 rfl rfl rfl (Nat.le_of_ble_eq_true rfl) ⟨Nat.le_of_ble_eq_true rfl, Nat.le_of_ble_eq_true rfl⟩ ⟨Nat.le_of_ble_eq_true rfl, Nat.le_of_ble_eq_true rfl⟩ dX11_fewestDisagreements_8 (fun M1 => ?_)
  refine ts_aload_n C dX11_fewestDisagreements_11 rfl 0 rfl ?_
  refine tgX11_4 C q_432 dX11_fewestDisagreements_12 ?_
  refine ts_callVi C [] (mX5_fewestByTable hl) kX5_fewestByTable q_493 (by decide) shX5 rfl rfl rfl (Nat.le_of_ble_eq_true rfl) ⟨Nat.le_of_ble_eq_true rfl, Nat.le_of_ble_eq_true rfl⟩ ⟨Nat.le_of_ble_eq_true rfl, Nat.le_of_ble_eq_true rfl⟩ dX11_fewestDisagreements_15 (fun r3 M2 => ?_)
  exact ts_ireti C (Nat.zero_le _) (Nat.zero_le _) dX11_fewestDisagreements_18
def wX9_decide_B81 (b : Nat)  (Q : Int → ts_M → Prop)  (y2 : Int) (M : ts_M) : Prop :=
  (wX9_startAnewIfTableIsEmpty b (fun M11 => ((ts_w y2 = 0 ∨ ts_w y2 = 1) ∧ Q y2 M11)) M)
def wX9_decide_B53 (b : Nat)  (Q : Int → ts_M → Prop)  (y1 : Int) (y2 : Int) (M : ts_M) : Prop :=
  (wX10_takeTop b (fun M10 => ((¬ (ts_w y1 = 0) → ((ts_w y2 = 0 → wX9_decide_B81 b Q y2 M10) ∧ (¬ (ts_w y2 = 0) → (wX9_takeEffect b y1 (fun M12 => wX9_decide_B81 b Q y2 M12) M10)))) ∧ (ts_w y1 = 0 → (wX9_settleMain b y2 (fun M13 => wX9_decide_B81 b Q y2 M13) M10)))) M)
def wX9_decide_B41 (b : Nat)  (Q : Int → ts_M → Prop)  (y1 : Int) (y2 : Int) (M : ts_M) : Prop :=
  ((¬ (ts_w y1 = 0) → wX9_decide_B53 b Q y1 y2 M) ∧ (ts_w y1 = 0 → ((ts_w y2 = 0 → wX9_decide_B53 b Q y1 y2 M) ∧ (¬ (ts_w y2 = 0) → (wX9_rewardYesVoters b (fun M14 => wX9_decide_B53 b Q y1 y2 M14) M)))))
def wX9_decide (b : Nat) (Q : Int → ts_M → Prop) (M : ts_M) : Prop :=
  (wX10_topRank b (fun r2 M1 => (∀ x3 : Int, x3 = r2 → (wX9_yesWeight b (fun r5 M4 => (wX9_isEnough b r5 (fun r7 M6 => (∀ x8 : Int, x8 = r7 → (∀ M9, M9 = ts_si M6 b 7 ((M6.1 b 7) + 1) → ((ts_w x8 = 0 → wX9_decide_B41 b Q x3 x8 M9) ∧ (¬ (ts_w x8 = 0) → (∀ M15, M15 = ts_si M9 b 8 ((M9.1 b 8) + 1) → wX9_decide_B41 b Q x3 x8 M15)))))) M4)) M1))) M)
set_option maxRecDepth 100000 in
set_option maxHeartbeats 4000000 in
theorem mX9_decide {l : Launch} {g : ts_W} (hl : l.stackTraces = false) {b : Nat} (hb : ts_isS b) {Q : Int → ts_M → Prop} {M : ts_M} : wX9_decide b Q M → ts_Con l g yX9_decide cX9_decide 3 (some .boolean) 4 0 0 [.ref (ts_ad g b)] M (ts_Ri Q) := by
  intro h0
  refine ts_Con.of hl (by decide) (Nat.le_of_ble_eq_true rfl) ?_
  intro p e s m args below meth c C
  have H81 : ∀ (y2 : Int) (M : ts_M), wX9_decide_B81 b  Q y2 M → ts_V p l e (ts_rm 4 0 0) s m args below meth c g 3 0 0 (MQ below (ts_Q g (ts_Ri Q)) args s 0 0 (ts_A g)) 81 [(0, .ref (ts_ad g b)), (2, ts_v y2)] [] M := by
    intro  y2 M
    unfold wX9_decide_B81
    refine ts_aload_n C dX9_decide_81 rfl 0 rfl ?_
    refine ts_callVv C [] (mX9_startAnewIfTableIsEmpty hl hb) kX9_startAnewIfTableIsEmpty q_1361 (ts_lt0 hb) (shX9 hb) rfl rfl rfl (Nat.le_of_ble_eq_true rfl) ⟨Nat.le_of_ble_eq_true rfl, Nat.le_of_ble_eq_true rfl⟩ ⟨Nat.le_of_ble_eq_true rfl, Nat.le_of_ble_eq_true rfl⟩ dX9_decide_82 (fun M11 => ?_)
    refine ts_iload_n C dX9_decide_85 rfl 1 rfl ?_
    exact ts_zreti C (Nat.zero_le _) (Nat.zero_le _) dX9_decide_86
  have H53 : ∀ (y1 : Int) (y2 : Int) (M : ts_M), wX9_decide_B53 b  Q y1 y2 M → ts_V p l e (ts_rm 4 0 0) s m args below meth c g 3 0 0 (MQ below (ts_Q g (ts_Ri Q)) args s 0 0 (ts_A g)) 53 [(0, .ref (ts_ad g b)), (1, ts_v y1), (2, ts_v y2)] [] M := by
    intro  y1 y2 M
    unfold wX9_decide_B53
    refine ts_aload_n C dX9_decide_53 rfl 0 rfl ?_
    refine tgX9_2 hb C q_295 dX9_decide_54 ?_
    refine ts_callVv C [] (mX10_takeTop hl hb) kX10_takeTop q_1326 (ts_lt hb 9 (by decide)) (shX10 hb) rfl rfl rfl (Nat.le_of_ble_eq_true rfl) ⟨Nat.le_of_ble_eq_true rfl, Nat.le_of_ble_eq_true rfl⟩ ⟨Nat.le_of_ble_eq_true rfl, Nat.le_of_ble_eq_true rfl⟩ dX9_decide_57 (fun M10 => ?_)
    refine ts_iload_n C dX9_decide_60 rfl 1 rfl ?_
    refine ts_cm0_ne C rfl 72 dX9_decide_61 rfl ?_ ?_
    · refine ts_iload_n C dX9_decide_72 rfl 2 rfl ?_
      refine ts_cm0_eq C rfl 81 dX9_decide_73 rfl ?_ ?_
      · exact ts_sub [0, 2] rfl (H81 _ _)
      · refine ts_aload_n C dX9_decide_76 rfl 0 rfl ?_
        refine ts_iload_n C dX9_decide_77 rfl 1 rfl ?_
        refine ts_callVv C [ts_v y1] (mX9_takeEffect hl hb) kX9_takeEffect q_1339 (ts_lt0 hb) (shX9 hb) rfl rfl rfl (Nat.le_of_ble_eq_true rfl) ⟨Nat.le_of_ble_eq_true rfl, Nat.le_of_ble_eq_true rfl⟩ ⟨Nat.le_of_ble_eq_true rfl, Nat.le_of_ble_eq_true rfl⟩ dX9_decide_78 (fun M12 => ?_)
        exact ts_sub [0, 2] rfl (H81 _ _)
    · refine ts_aload_n C dX9_decide_64 rfl 0 rfl ?_
      refine ts_iload_n C dX9_decide_65 rfl 2 rfl ?_
      refine ts_callVv C [ts_v y2] (mX9_settleMain hl hb) kX9_settleMain q_1330 (ts_lt0 hb) (shX9 hb) rfl rfl rfl (Nat.le_of_ble_eq_true rfl) ⟨Nat.le_of_ble_eq_true rfl, Nat.le_of_ble_eq_true rfl⟩ ⟨Nat.le_of_ble_eq_true rfl, Nat.le_of_ble_eq_true rfl⟩ dX9_decide_66 (fun M13 => ?_)
      refine ts_goto C 81 dX9_decide_69 rfl ?_
      exact ts_sub [0, 2] rfl (H81 _ _)
  have H41 : ∀ (y1 : Int) (y2 : Int) (M : ts_M), wX9_decide_B41 b  Q y1 y2 M → ts_V p l e (ts_rm 4 0 0) s m args below meth c g 3 0 0 (MQ below (ts_Q g (ts_Ri Q)) args s 0 0 (ts_A g)) 41 [(0, .ref (ts_ad g b)), (1, ts_v y1), (2, ts_v y2)] [] M := by
    intro  y1 y2 M
    unfold wX9_decide_B41
    refine ts_iload_n C dX9_decide_41 rfl 1 rfl ?_
    refine ts_cm0_ne C rfl 53 dX9_decide_42 rfl ?_ ?_
    · exact ts_sub [0, 1, 2] rfl (H53 _ _ _)
    · refine ts_iload_n C dX9_decide_45 rfl 2 rfl ?_
      refine ts_cm0_eq C rfl 53 dX9_decide_46 rfl ?_ ?_
      · exact ts_sub [0, 1, 2] rfl (H53 _ _ _)
      · refine ts_aload_n C dX9_decide_49 rfl 0 rfl ?_
        refine ts_callVv C [] (mX9_rewardYesVoters hl hb) kX9_rewardYesVoters q_1318 (ts_lt0 hb) (shX9 hb) rfl rfl rfl (Nat.le_of_ble_eq_true rfl) ⟨Nat.le_of_ble_eq_true rfl, Nat.le_of_ble_eq_true rfl⟩ ⟨Nat.le_of_ble_eq_true rfl, Nat.le_of_ble_eq_true rfl⟩ dX9_decide_50 (fun M14 => ?_)
        exact ts_sub [0, 1, 2] rfl (H53 _ _ _)
  revert h0
  unfold wX9_decide
  have hl0 : lv_args 0 [.ref (ts_ad g b)] = [(0, .ref (ts_ad g b))] := rfl
  rw [hl0]
  refine ts_aload_n C dX9_decide_0 rfl 0 rfl ?_
  refine tgX9_2 hb C q_295 dX9_decide_1 ?_
  refine ts_callVi C [] (mX10_topRank hl hb) kX10_topRank q_1285 (ts_lt hb 9 (by decide)) (shX10 hb) rfl rfl rfl (Nat.le_of_ble_eq_true rfl) ⟨Nat.le_of_ble_eq_true rfl, Nat.le_of_ble_eq_true rfl⟩ ⟨Nat.le_of_ble_eq_true rfl, Nat.le_of_ble_eq_true rfl⟩ dX9_decide_4 (fun r2 M1 => ?_)
  refine ts_istore_n C dX9_decide_7 rfl (by decide) (lv' := fun x3 => [(1, ts_v x3), (0, .ref (ts_ad g b))]) (fun _ => rfl) (fun x3 => ?_)
  refine ts_aload_n C dX9_decide_8 rfl 1 rfl ?_
  refine ts_aload_n C dX9_decide_9 rfl 1 rfl ?_
  refine ts_callVi C [] (mX9_yesWeight hl hb) kX9_yesWeight q_1286 (ts_lt0 hb) (shX9 hb) rfl rfl rfl (Nat.le_of_ble_eq_true rfl) ⟨Nat.le_of_ble_eq_true rfl, Nat.le_of_ble_eq_true rfl⟩ ⟨Nat.le_of_ble_eq_true rfl, Nat.le_of_ble_eq_true rfl⟩ dX9_decide_10 (fun r5 M4 => ?_)
  refine ts_callVi C [ts_v r5] (mX9_isEnough hl hb) kX9_isEnough q_1310 (ts_lt0 hb) (shX9 hb) rfl rfl rfl (Nat.le_of_ble_eq_true rfl) ⟨Nat.le_of_ble_eq_true rfl, Nat.le_of_ble_eq_true rfl⟩ ⟨Nat.le_of_ble_eq_true rfl, Nat.le_of_ble_eq_true rfl⟩ dX9_decide_13 (fun r7 M6 => ?_)
  refine ts_istore_n C dX9_decide_16 rfl (by decide) (lv' := fun x8 => [(2, ts_v x8), (1, ts_v x3), (0, .ref (ts_ad g b))]) (fun _ => rfl) (fun x8 => ?_)
  refine ts_aload_n C dX9_decide_17 rfl 2 rfl ?_
  refine ts_dup C dX9_decide_18 rfl ?_
  refine tgX9_7 hb C q_304 dX9_decide_19 ?_
  refine ts_iconst C dX9_decide_22 1 rfl ?_
  refine ts_iadd C dX9_decide_23 ?_
  refine tpX9_7 hb C q_304 dX9_decide_24 (fun M9 => ?_)
  refine ts_iload_n C dX9_decide_27 rfl 0 rfl ?_
  refine ts_cm0_eq C rfl 41 dX9_decide_28 rfl ?_ ?_
  · exact ts_sub [2, 1, 0] rfl (H41 _ _ _)
  · refine ts_aload_n C dX9_decide_31 rfl 2 rfl ?_
    refine ts_dup C dX9_decide_32 rfl ?_
    refine tgX9_8 hb C q_306 dX9_decide_33 ?_
    refine ts_iconst C dX9_decide_36 1 rfl ?_
    refine ts_iadd C dX9_decide_37 ?_
    refine tpX9_8 hb C q_306 dX9_decide_38 (fun M15 => ?_)
    exact ts_sub [2, 1, 0] rfl (H41 _ _ _)
