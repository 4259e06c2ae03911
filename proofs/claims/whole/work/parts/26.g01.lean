def wX7_commandAt_B22   (Q : Int → ts_M → Prop)  (z0 : Int) (M : ts_M) : Prop :=
  Q z0 M
def wX7_commandAt_B21   (Q : Int → ts_M → Prop)   (M : ts_M) : Prop :=
  wX7_commandAt_B22 Q (-1) M
def wX7_commandAt (p1 : Int) (Q : Int → ts_M → Prop) (M : ts_M) : Prop :=
  ((ts_w p1 < 0 → wX7_commandAt_B21 Q M) ∧ (¬ (ts_w p1 < 0) → ((ts_w (M.1 160 4) ≤ ts_w p1 → wX7_commandAt_B21 Q M) ∧ (¬ (ts_w (M.1 160 4) ≤ ts_w p1) → ((0 ≤ ts_w p1 ∧ ts_w p1 < 12) ∧ wX7_commandAt_B22 Q (M.1 162 (ts_w p1)) M)))))
set_option maxRecDepth 100000 in
set_option maxHeartbeats 4000000 in
theorem mX7_commandAt {l : Launch} {g : ts_W} (hl : l.stackTraces = false) {p1 : Int} {Q : Int → ts_M → Prop} {M : ts_M} : wX7_commandAt p1 Q M → ts_Con l g yX7_commandAt cX7_commandAt 2 (some (.object "TeaspoonSalon$Command")) 0 0 0 [.ref (ts_ad g 160), ts_v p1] M (ts_Rn g Q) := by
  intro h0
  refine ts_Con.of hl (by decide) (Nat.le_of_ble_eq_true rfl) ?_
  intro p e s m args below meth c C
  have H22 : ∀ (z0 : Int) (M : ts_M), wX7_commandAt_B22   Q z0 M → ts_V p l e (ts_rm 0 0 0) s m args below meth c g 2 0 0 (MQ below (ts_Q g (ts_Rn g Q)) args s 0 0 (ts_A g)) 22 [] [ts_cx g z0] M := by
    intro  z0 M
    unfold wX7_commandAt_B22
    exact ts_nreti C (Nat.zero_le _) (Nat.zero_le _) dX7_commandAt_22
  have H21 : ∀  (M : ts_M), wX7_commandAt_B21   Q  M → ts_V p l e (ts_rm 0 0 0) s m args below meth c g 2 0 0 (MQ below (ts_Q g (ts_Rn g Q)) args s 0 0 (ts_A g)) 21 [] [] M := by
    intro   M
    unfold wX7_commandAt_B21
    refine ts_null C dX7_commandAt_21 ?_
    exact ts_sub [] rfl (H22 _ _)
  revert h0
  unfold wX7_commandAt
  have hl0 : lv_args 0 [.ref (ts_ad g 160), ts_v p1] = [(0, .ref (ts_ad g 160)), (1, ts_v p1)] := rfl
  rw [hl0]
  refine ts_iload_n C dX7_commandAt_0 rfl 1 rfl ?_
  refine ts_cm0_lt C rfl 21 dX7_commandAt_1 rfl ?_ ?_
  · exact ts_sub [] rfl (H21 _)
  · refine ts_iload_n C dX7_commandAt_4 rfl 1 rfl ?_
    refine ts_aload_n C dX7_commandAt_5 rfl 0 rfl ?_
    refine tgX7_4 C q_375 dX7_commandAt_6 ?_
    refine ts_cmp_ge C rfl rfl 21 dX7_commandAt_9 rfl ?_ ?_
    · exact ts_sub [] rfl (H21 _)
    · refine ts_aload_n C dX7_commandAt_12 rfl 0 rfl ?_
      refine tgX7_1 C q_372 dX7_commandAt_13 ?_
      refine ts_iload_n C dX7_commandAt_16 rfl 1 rfl ?_
      refine ts_aldC C dX7_commandAt_17 ?_
      refine ts_goto C 22 dX7_commandAt_18 rfl ?_
      exact ts_sub [] rfl (H22 _ _)
def wX7_keep_B29   (Q : ts_M → Prop)   (M : ts_M) : Prop :=
  Q M
def wX7_keep (p1 : Int) (Q : ts_M → Prop) (M : ts_M) : Prop :=
  ((12 ≤ ts_w (M.1 160 4) → wX7_keep_B29 Q M) ∧ (¬ (12 ≤ ts_w (M.1 160 4)) → ((0 ≤ ts_w (M.1 160 4) ∧ ts_w (M.1 160 4) < 12) ∧ (0 ≤ p1 ∧ p1 < 12) ∧ ∀ M1, M1 = ts_si M 162 (ts_w (M.1 160 4)) p1 → (∀ M2, M2 = ts_si M1 160 4 ((M1.1 160 4) + 1) → wX7_keep_B29 Q M2))))
set_option maxRecDepth 100000 in
set_option maxHeartbeats 4000000 in
theorem mX7_keep {l : Launch} {g : ts_W} (hl : l.stackTraces = false) {p1 : Int} {Q : ts_M → Prop} {M : ts_M} : wX7_keep p1 Q M → ts_Con l g yX7_keep cX7_keep 2 none 0 0 0 [.ref (ts_ad g 160), ts_cx g p1] M (ts_Rv Q) := by
  intro h0
  refine ts_Con.of hl (by decide) (by unfold ts_cx; cases ts_cm g p1 <;> exact Nat.le_of_ble_eq_true rfl) ?_
  intro p e s m args below meth c C
  have H29 : ∀  (M : ts_M), wX7_keep_B29   Q  M → ts_V p l e (ts_rm 0 0 0) s m args below meth c g 2 0 0 (MQ below (ts_Q g (ts_Rv Q)) args s 0 0 (ts_A g)) 29 [] [] M := by
    intro   M
    unfold wX7_keep_B29
    exact ts_vreti C (Nat.zero_le _) (Nat.zero_le _) dX7_keep_29
  revert h0
  unfold wX7_keep
  have hl0 : lv_args 0 [.ref (ts_ad g 160), ts_cx g p1] = [(0, .ref (ts_ad g 160)), (1, ts_cx g p1)] := (by unfold ts_cx; cases ts_cm g p1 <;> rfl)
  rw [hl0]
  refine ts_aload_n C dX7_keep_0 rfl 0 rfl ?_
  refine tgX7_4 C q_375 dX7_keep_1 ?_
  refine ts_bipush C dX7_keep_4 12 tb_12 ?_
  refine ts_cmp_ge C rfl tw_12 29 dX7_keep_6 rfl ?_ ?_
  · exact ts_sub [] rfl (H29 _)
  · refine ts_aload_n C dX7_keep_9 rfl 0 rfl ?_
    refine tgX7_1 C q_372 dX7_keep_10 ?_
    refine ts_aload_n C dX7_keep_13 rfl 0 rfl ?_
    refine tgX7_4 C q_375 dX7_keep_14 ?_
    refine ts_aloadq_n C dX7_keep_17 rfl 1 rfl ?_
    refine ts_astC C dX7_keep_18 (fun M1 => ?_)
    refine ts_aload_n C dX7_keep_19 rfl 0 rfl ?_
    refine ts_dup C dX7_keep_20 rfl ?_
    refine tgX7_4 C q_375 dX7_keep_21 ?_
    refine ts_iconst C dX7_keep_24 1 rfl ?_
    refine ts_iadd C dX7_keep_25 ?_
    refine tpX7_4 C q_375 dX7_keep_26 (fun M2 => ?_)
    exact ts_sub [] rfl (H29 _)
def wX9_refusalOfSpoon_B20 (b : Nat)  (Q : Int → ts_M → Prop)   (M : ts_M) : Prop :=
  Q 1 M
def wX9_refusalOfSpoon_B45 (b : Nat)  (Q : Int → ts_M → Prop)  (z0 : Int) (M : ts_M) : Prop :=
  Q z0 M
def wX9_refusalOfSpoon (b : Nat) (p1 : Int) (p2 : Int) (Q : Int → ts_M → Prop) (M : ts_M) : Prop :=
  (wX11_isBetween p1 1 9 (fun r2 M1 => ((ts_w r2 = 0 → wX9_refusalOfSpoon_B20 b Q M1) ∧ (¬ (ts_w r2 = 0) → (wX11_isBetween p2 0 99 (fun r4 M3 => ((¬ (ts_w r4 = 0) → ((ts_w (M3.1 (b + 1) 4) < 8 → wX9_refusalOfSpoon_B45 b Q 0 M3) ∧ (¬ (ts_w (M3.1 (b + 1) 4) < 8) → wX9_refusalOfSpoon_B45 b Q 2 M3))) ∧ (ts_w r4 = 0 → wX9_refusalOfSpoon_B20 b Q M3))) M1)))) M)
set_option maxRecDepth 100000 in
set_option maxHeartbeats 4000000 in
theorem mX9_refusalOfSpoon {l : Launch} {g : ts_W} (hl : l.stackTraces = false) {b : Nat} (hb : ts_isS b) {p1 : Int} {p2 : Int} {Q : Int → ts_M → Prop} {M : ts_M} : wX9_refusalOfSpoon b p1 p2 Q M → ts_Con l g yX9_refusalOfSpoon cX9_refusalOfSpoon 3 (some (.object "TeaspoonSalon$Refusal")) 1 0 0 [.ref (ts_ad g b), ts_v p1, ts_v p2] M (ts_Rr g Q) := by
  intro h0
  refine ts_Con.of hl (by decide) (Nat.le_of_ble_eq_true rfl) ?_
  intro p e s m args below meth c C
  have H20 : ∀  (M : ts_M), wX9_refusalOfSpoon_B20 b  Q  M → ts_V p l e (ts_rm 1 0 0) s m args below meth c g 3 0 0 (MQ below (ts_Q g (ts_Rr g Q)) args s 0 0 (ts_A g)) 20 [] [] M := by
    intro   M
    unfold wX9_refusalOfSpoon_B20
    refine ts_getR C 1 (by decide) q_1105 dX9_refusalOfSpoon_20 ?_
    exact ts_rreti C (Nat.zero_le _) (Nat.zero_le _) dX9_refusalOfSpoon_23
  have H45 : ∀ (z0 : Int) (M : ts_M), wX9_refusalOfSpoon_B45 b  Q z0 M → ts_V p l e (ts_rm 1 0 0) s m args below meth c g 3 0 0 (MQ below (ts_Q g (ts_Rr g Q)) args s 0 0 (ts_A g)) 45 [] [ts_rv g z0] M := by
    intro  z0 M
    unfold wX9_refusalOfSpoon_B45
    exact ts_rreti C (Nat.zero_le _) (Nat.zero_le _) dX9_refusalOfSpoon_45
  revert h0
  unfold wX9_refusalOfSpoon
  have hl0 : lv_args 0 [.ref (ts_ad g b), ts_v p1, ts_v p2] = [(0, .ref (ts_ad g b)), (1, ts_v p1), (2, ts_v p2)] := rfl
  rw [hl0]
  refine ts_iload_n C dX9_refusalOfSpoon_0 rfl 1 rfl ?_
  refine ts_iconst C dX9_refusalOfSpoon_1 1 rfl ?_
  refine ts_bipush C dX9_refusalOfSpoon_2 9 tb_9 ?_
  refine ts_callSNi (host := "TeaspoonSalon") C [ts_v p1, ts_v 1, ts_v 9] (mX11_isBetween hl) kX11_isBetween qn_13 rfl rfl (Nat.le_of_ble_eq_true rfl) ⟨Nat.le_of_ble_eq_true rfl, Nat.le_of_ble_eq_true rfl⟩ ⟨Nat.le_of_ble_eq_true rfl, Nat.le_of_ble_eq_true rfl⟩ dX9_refusalOfSpoon_4 (fun r2 M1 => ?_)
  refine ts_cm0_eq C rfl 20 dX9_refusalOfSpoon_7 rfl ?_ ?_
  · exact ts_sub [] rfl (H20 _)
  · refine ts_iload_n C dX9_refusalOfSpoon_10 rfl 2 rfl ?_
    refine ts_iconst C dX9_refusalOfSpoon_11 0 rfl ?_
    refine ts_bipush C dX9_refusalOfSpoon_12 99 tb_99 ?_
    refine ts_callSNi (host := "TeaspoonSalon") C [ts_v p2, ts_v 0, ts_v 99] (mX11_isBetween hl) kX11_isBetween qn_13 rfl rfl (Nat.le_of_ble_eq_true rfl) ⟨Nat.le_of_ble_eq_true rfl, Nat.le_of_ble_eq_true rfl⟩ ⟨Nat.le_of_ble_eq_true rfl, Nat.le_of_ble_eq_true rfl⟩ dX9_refusalOfSpoon_14 (fun r4 M3 => ?_)
    refine ts_cm0_ne C rfl 24 dX9_refusalOfSpoon_17 rfl ?_ ?_
    · refine ts_aload_n C dX9_refusalOfSpoon_24 rfl 0 rfl ?_
      refine tgX9_0 hb C q_289 dX9_refusalOfSpoon_25 ?_
      refine tgX8_4 hb C q_191 dX9_refusalOfSpoon_28 ?_
      refine ts_bipush C dX9_refusalOfSpoon_31 8 tb_8 ?_
      refine ts_cmp_lt C rfl tw_8 42 dX9_refusalOfSpoon_33 rfl ?_ ?_
      · refine ts_getR C 0 (by decide) q_1122 dX9_refusalOfSpoon_42 ?_
        exact ts_sub [] rfl (H45 _ _)
      · refine ts_getR C 2 (by decide) q_1120 dX9_refusalOfSpoon_36 ?_
        refine ts_goto C 45 dX9_refusalOfSpoon_39 rfl ?_
        exact ts_sub [] rfl (H45 _ _)
    · exact ts_sub [] rfl (H20 _)
def wX9_refusalOfProposal_B35 (b : Nat)  (Q : Int → ts_M → Prop)  (z0 : Int) (M : ts_M) : Prop :=
  Q z0 M
def wX9_refusalOfProposal (b : Nat) (p1 : Int) (Q : Int → ts_M → Prop) (M : ts_M) : Prop :=
  (wX11_isBetween p1 0 99 (fun r2 M1 => ((¬ (ts_w r2 = 0) → ((ts_w (M1.1 (b + 6) 2) < 6 → wX9_refusalOfProposal_B35 b Q 0 M1) ∧ (¬ (ts_w (M1.1 (b + 6) 2) < 6) → wX9_refusalOfProposal_B35 b Q 2 M1))) ∧ (ts_w r2 = 0 → Q 1 M1))) M)
set_option maxRecDepth 100000 in
set_option maxHeartbeats 4000000 in
theorem mX9_refusalOfProposal {l : Launch} {g : ts_W} (hl : l.stackTraces = false) {b : Nat} (hb : ts_isS b) {p1 : Int} {Q : Int → ts_M → Prop} {M : ts_M} : wX9_refusalOfProposal b p1 Q M → ts_Con l g yX9_refusalOfProposal cX9_refusalOfProposal 2 (some (.object "TeaspoonSalon$Refusal")) 1 0 0 [.ref (ts_ad g b), ts_v p1] M (ts_Rr g Q) := by
  intro h0
  refine ts_Con.of hl (by decide) (Nat.le_of_ble_eq_true rfl) ?_
  intro p e s m args below meth c C
  have H35 : ∀ (z0 : Int) (M : ts_M), wX9_refusalOfProposal_B35 b  Q z0 M → ts_V p l e (ts_rm 1 0 0) s m args below meth c g 2 0 0 (MQ below (ts_Q g (ts_Rr g Q)) args s 0 0 (ts_A g)) 35 [] [ts_rv g z0] M := by
    intro  z0 M
    unfold wX9_refusalOfProposal_B35
    exact ts_rreti C (Nat.zero_le _) (Nat.zero_le _) dX9_refusalOfProposal_35
  revert h0
  unfold wX9_refusalOfProposal
  have hl0 : lv_args 0 [.ref (ts_ad g b), ts_v p1] = [(0, .ref (ts_ad g b)), (1, ts_v p1)] := rfl
  rw [hl0]
  refine ts_iload_n C dX9_refusalOfProposal_0 rfl 1 rfl ?_
  refine ts_iconst C dX9_refusalOfProposal_1 0 rfl ?_
  refine ts_bipush C dX9_refusalOfProposal_2 99 tb_99 ?_
  refine ts_callSNi (host := "TeaspoonSalon") C [ts_v p1, ts_v 0, ts_v 99] (mX11_isBetween hl) kX11_isBetween qn_13 rfl rfl (Nat.le_of_ble_eq_true rfl) ⟨Nat.le_of_ble_eq_true rfl, Nat.le_of_ble_eq_true rfl⟩ ⟨Nat.le_of_ble_eq_true rfl, Nat.le_of_ble_eq_true rfl⟩ dX9_refusalOfProposal_4 (fun r2 M1 => ?_)
  refine ts_cm0_ne C rfl 14 dX9_refusalOfProposal_7 rfl ?_ ?_
  · refine ts_aload_n C dX9_refusalOfProposal_14 rfl 0 rfl ?_
    refine tgX9_1 hb C q_292 dX9_refusalOfProposal_15 ?_
    refine tgX4_2 hb C q_228 dX9_refusalOfProposal_18 ?_
    refine ts_bipush C dX9_refusalOfProposal_21 6 tb_6 ?_
    refine ts_cmp_lt C rfl tw_6 32 dX9_refusalOfProposal_23 rfl ?_ ?_
    · refine ts_getR C 0 (by decide) q_1122 dX9_refusalOfProposal_32 ?_
      exact ts_sub [] rfl (H35 _ _)
    · refine ts_getR C 2 (by decide) q_1120 dX9_refusalOfProposal_26 ?_
      refine ts_goto C 35 dX9_refusalOfProposal_29 rfl ?_
      exact ts_sub [] rfl (H35 _ _)
  · refine ts_getR C 1 (by decide) q_1105 dX9_refusalOfProposal_10 ?_
    exact ts_rreti C (Nat.zero_le _) (Nat.zero_le _) dX9_refusalOfProposal_13
def wX9_refusalOfSpeech_B48 (b : Nat)  (Q : Int → ts_M → Prop)   (M : ts_M) : Prop :=
  Q 2 M
def wX9_refusalOfSpeech_B73 (b : Nat)  (Q : Int → ts_M → Prop)  (z0 : Int) (M : ts_M) : Prop :=
  Q z0 M
def wX9_refusalOfSpeech (b : Nat) (p1 : Int) (Q : Int → ts_M → Prop) (M : ts_M) : Prop :=
  (wX8_has b p1 (fun r2 M1 => ((¬ (ts_w r2 = 0) → ((ts_w (M1.1 (b + 9) 1) = 0 → wX9_refusalOfSpeech_B48 b Q M1) ∧ (¬ (ts_w (M1.1 (b + 9) 1) = 0) → ((¬ (ts_w (M1.1 (b + 9) 4) = 0) → wX9_refusalOfSpeech_B48 b Q M1) ∧ (ts_w (M1.1 (b + 9) 4) = 0 → ((0 ≤ ts_w p1 ∧ ts_w p1 < ((8 : Nat) : Int)) ∧ ((ts_w (M1.1 (b + 5) (ts_w p1)) < 2 → ((0 ≤ ts_w p1 ∧ ts_w p1 < ((8 : Nat) : Int)) ∧ ((0 < ts_w (M1.1 (b + 4) (ts_w p1)) → wX9_refusalOfSpeech_B73 b Q 0 M1) ∧ (¬ (0 < ts_w (M1.1 (b + 4) (ts_w p1))) → wX9_refusalOfSpeech_B73 b Q 5 M1)))) ∧ (¬ (ts_w (M1.1 (b + 5) (ts_w p1)) < 2) → wX9_refusalOfSpeech_B48 b Q M1)))))))) ∧ (ts_w r2 = 0 → Q 3 M1))) M)
set_option maxRecDepth 100000 in
set_option maxHeartbeats 4000000 in
theorem mX9_refusalOfSpeech {l : Launch} {g : ts_W} (hl : l.stackTraces = false) {b : Nat} (hb : ts_isS b) {p1 : Int} {Q : Int → ts_M → Prop} {M : ts_M} : wX9_refusalOfSpeech b p1 Q M → ts_Con l g yX9_refusalOfSpeech cX9_refusalOfSpeech 2 (some (.object "TeaspoonSalon$Refusal")) 1 0 0 [.ref (ts_ad g b), ts_v p1] M (ts_Rr g Q) := by
  intro h0
  refine ts_Con.of hl (by decide) (Nat.le_of_ble_eq_true rfl) ?_
  intro p e s m args below meth c C
  have H48 : ∀  (M : ts_M), wX9_refusalOfSpeech_B48 b  Q  M → ts_V p l e (ts_rm 1 0 0) s m args below meth c g 2 0 0 (MQ below (ts_Q g (ts_Rr g Q)) args s 0 0 (ts_A g)) 48 [] [] M := by
    intro   M
    unfold wX9_refusalOfSpeech_B48
    refine ts_getR C 2 (by decide) q_1120 dX9_refusalOfSpeech_48 ?_
    exact ts_rreti C (Nat.zero_le _) (Nat.zero_le _) dX9_refusalOfSpeech_51
  have H73 : ∀ (z0 : Int) (M : ts_M), wX9_refusalOfSpeech_B73 b  Q z0 M → ts_V p l e (ts_rm 1 0 0) s m args below meth c g 2 0 0 (MQ below (ts_Q g (ts_Rr g Q)) args s 0 0 (ts_A g)) 73 [] [ts_rv g z0] M := by
    intro  z0 M
    unfold wX9_refusalOfSpeech_B73
    exact ts_rreti C (Nat.zero_le _) (Nat.zero_le _) dX9_refusalOfSpeech_73
  revert h0
  unfold wX9_refusalOfSpeech
  have hl0 : lv_args 0 [.ref (ts_ad g b), ts_v p1] = [(0, .ref (ts_ad g b)), (1, ts_v p1)] := rfl
  rw [hl0]
  refine ts_aload_n C dX9_refusalOfSpeech_0 rfl 0 rfl ?_
  refine tgX9_0 hb C q_289 dX9_refusalOfSpeech_1 ?_
  refine ts_iload_n C dX9_refusalOfSpeech_4 rfl 1 rfl ?_
  refine ts_callVi C [ts_v p1] (mX8_has hl hb) kX8_has q_1152 (ts_lt hb 1 (by decide)) (shX8 hb) rfl rfl rfl (Nat.le_of_ble_eq_true rfl) ⟨Nat.le_of_ble_eq_true rfl, Nat.le_of_ble_eq_true rfl⟩ ⟨Nat.le_of_ble_eq_true rfl, Nat.le_of_ble_eq_true rfl⟩ dX9_refusalOfSpeech_5 (fun r2 M1 => ?_)
  refine ts_cm0_ne C rfl 15 dX9_refusalOfSpeech_8 rfl ?_ ?_
  · refine ts_aload_n C dX9_refusalOfSpeech_15 rfl 0 rfl ?_
    refine tgX9_2 hb C q_295 dX9_refusalOfSpeech_16 ?_
    refine tgX10_1 hb C q_248 dX9_refusalOfSpeech_19 ?_
    refine ts_cm0_eq C rfl 48 dX9_refusalOfSpeech_22 rfl ?_ ?_
    · exact ts_sub [] rfl (H48 _)
    · refine ts_aload_n C dX9_refusalOfSpeech_25 rfl 0 rfl ?_
      refine tgX9_2 hb C q_295 dX9_refusalOfSpeech_26 ?_
      refine tgX10_4 hb C q_257 dX9_refusalOfSpeech_29 ?_
      refine ts_cm0_ne C rfl 48 dX9_refusalOfSpeech_32 rfl ?_ ?_
      · exact ts_sub [] rfl (H48 _)
      · refine ts_aload_n C dX9_refusalOfSpeech_35 rfl 0 rfl ?_
        refine tgX9_0 hb C q_289 dX9_refusalOfSpeech_36 ?_
        refine tgX8_3 hb C q_188 dX9_refusalOfSpeech_39 ?_
        refine ts_iload_n C dX9_refusalOfSpeech_42 rfl 1 rfl ?_
        refine ts_iald C (ts_lt hb 5 (by decide)) (shS5 hb) dX9_refusalOfSpeech_43 ?_
        refine ts_iconst C dX9_refusalOfSpeech_44 2 rfl ?_
        refine ts_cmp_lt C rfl tw_2 52 dX9_refusalOfSpeech_45 rfl ?_ ?_
        · refine ts_aload_n C dX9_refusalOfSpeech_52 rfl 0 rfl ?_
          refine tgX9_0 hb C q_289 dX9_refusalOfSpeech_53 ?_
          refine tgX8_2 hb C q_185 dX9_refusalOfSpeech_56 ?_
          refine ts_iload_n C dX9_refusalOfSpeech_59 rfl 1 rfl ?_
          refine ts_iald C (ts_lt hb 4 (by decide)) (shS4 hb) dX9_refusalOfSpeech_60 ?_
          refine ts_cm0_gt C rfl 70 dX9_refusalOfSpeech_61 rfl ?_ ?_
          · refine ts_getR C 0 (by decide) q_1122 dX9_refusalOfSpeech_70 ?_
            exact ts_sub [] rfl (H73 _ _)
          · refine ts_getR C 5 (by decide) q_1146 dX9_refusalOfSpeech_64 ?_
            refine ts_goto C 73 dX9_refusalOfSpeech_67 rfl ?_
            exact ts_sub [] rfl (H73 _ _)
        · exact ts_sub [] rfl (H48 _)
  · refine ts_getR C 3 (by decide) q_1156 dX9_refusalOfSpeech_11 ?_
    exact ts_rreti C (Nat.zero_le _) (Nat.zero_le _) dX9_refusalOfSpeech_14
def wX9_refusalOfSpill_B31 (b : Nat)  (Q : Int → ts_M → Prop)  (z0 : Int) (M : ts_M) : Prop :=
  Q z0 M
def wX9_refusalOfSpill (b : Nat) (p1 : Int) (p2 : Int) (p3 : Int) (Q : Int → ts_M → Prop) (M : ts_M) : Prop :=
  (wX1_hasCell p1 p2 (fun r2 M1 => ((¬ (ts_w r2 = 0) → (wX11_isBetween p3 1 30 (fun r4 M3 => ((ts_w r4 = 0 → wX9_refusalOfSpill_B31 b Q 1 M3) ∧ (¬ (ts_w r4 = 0) → wX9_refusalOfSpill_B31 b Q 0 M3))) M1)) ∧ (ts_w r2 = 0 → Q 3 M1))) M)
set_option maxRecDepth 100000 in
set_option maxHeartbeats 4000000 in
theorem mX9_refusalOfSpill {l : Launch} {g : ts_W} (hl : l.stackTraces = false) {b : Nat} (hb : ts_isS b) {p1 : Int} {p2 : Int} {p3 : Int} {Q : Int → ts_M → Prop} {M : ts_M} : wX9_refusalOfSpill b p1 p2 p3 Q M → ts_Con l g yX9_refusalOfSpill cX9_refusalOfSpill 4 (some (.object "TeaspoonSalon$Refusal")) 2 0 0 [.ref (ts_ad g b), ts_v p1, ts_v p2, ts_v p3] M (ts_Rr g Q) := by
  intro h0
  refine ts_Con.of hl (by decide) (Nat.le_of_ble_eq_true rfl) ?_
  intro p e s m args below meth c C
  have H31 : ∀ (z0 : Int) (M : ts_M), wX9_refusalOfSpill_B31 b  Q z0 M → ts_V p l e (ts_rm 2 0 0) s m args below meth c g 4 0 0 (MQ below (ts_Q g (ts_Rr g Q)) args s 0 0 (ts_A g)) 31 [] [ts_rv g z0] M := by
    intro  z0 M
    unfold wX9_refusalOfSpill_B31
    exact ts_rreti C (Nat.zero_le _) (Nat.zero_le _) dX9_refusalOfSpill_31
  revert h0
  unfold wX9_refusalOfSpill
  have hl0 : lv_args 0 [.ref (ts_ad g b), ts_v p1, ts_v p2, ts_v p3] = [(0, .ref (ts_ad g b)), (1, ts_v p1), (2, ts_v p2), (3, ts_v p3)] := rfl
  rw [hl0]
  refine ts_iload_n C dX9_refusalOfSpill_0 rfl 1 rfl ?_
  refine ts_iload_n C dX9_refusalOfSpill_1 rfl 2 rfl ?_
  refine ts_callSi C [ts_v p1, ts_v p2] (mX1_hasCell hl) kX1_hasCell q_1162 rfl rfl (Nat.le_of_ble_eq_true rfl) ⟨Nat.le_of_ble_eq_true rfl, Nat.le_of_ble_eq_true rfl⟩ ⟨Nat.le_of_ble_eq_true rfl, Nat.le_of_ble_eq_true rfl⟩ dX9_refusalOfSpill_2 (fun r2 M1 => ?_)
  refine ts_cm0_ne C rfl 12 dX9_refusalOfSpill_5 rfl ?_ ?_
  · refine ts_iload_n C dX9_refusalOfSpill_12 rfl 3 rfl ?_
    refine ts_iconst C dX9_refusalOfSpill_13 1 rfl ?_
    refine ts_bipush C dX9_refusalOfSpill_14 30 tb_30 ?_
    refine ts_callSNi (host := "TeaspoonSalon") C [ts_v p3, ts_v 1, ts_v 30] (mX11_isBetween hl) kX11_isBetween qn_13 rfl rfl (Nat.le_of_ble_eq_true rfl) ⟨Nat.le_of_ble_eq_true rfl, Nat.le_of_ble_eq_true rfl⟩ ⟨Nat.le_of_ble_eq_true rfl, Nat.le_of_ble_eq_true rfl⟩ dX9_refusalOfSpill_16 (fun r4 M3 => ?_)
    refine ts_cm0_eq C rfl 28 dX9_refusalOfSpill_19 rfl ?_ ?_
    · refine ts_getR C 1 (by decide) q_1105 dX9_refusalOfSpill_28 ?_
      exact ts_sub [] rfl (H31 _ _)
    · refine ts_getR C 0 (by decide) q_1122 dX9_refusalOfSpill_22 ?_
      refine ts_goto C 31 dX9_refusalOfSpill_25 rfl ?_
      exact ts_sub [] rfl (H31 _ _)
  · refine ts_getR C 3 (by decide) q_1156 dX9_refusalOfSpill_8 ?_
    exact ts_rreti C (Nat.zero_le _) (Nat.zero_le _) dX9_refusalOfSpill_11
def wX9_refusalOfMop_B35 (b : Nat)  (Q : Int → ts_M → Prop)  (z0 : Int) (M : ts_M) : Prop :=
  Q z0 M
def wX9_refusalOfMop (b : Nat) (p1 : Int) (p2 : Int) (Q : Int → ts_M → Prop) (M : ts_M) : Prop :=
  (wX1_hasCell p1 p2 (fun r2 M1 => ((¬ (ts_w r2 = 0) → (wX1_wetAt b p1 p2 (fun r4 M3 => ((¬ (r4 = 0) → wX9_refusalOfMop_B35 b Q 0 M3) ∧ (r4 = 0 → wX9_refusalOfMop_B35 b Q 2 M3))) M1)) ∧ (ts_w r2 = 0 → Q 3 M1))) M)
set_option maxRecDepth 100000 in
set_option maxHeartbeats 4000000 in
theorem mX9_refusalOfMop {l : Launch} {g : ts_W} (hl : l.stackTraces = false) {b : Nat} (hb : ts_isS b) {p1 : Int} {p2 : Int} {Q : Int → ts_M → Prop} {M : ts_M} : wX9_refusalOfMop b p1 p2 Q M → ts_Con l g yX9_refusalOfMop cX9_refusalOfMop 3 (some (.object "TeaspoonSalon$Refusal")) 2 0 0 [.ref (ts_ad g b), ts_v p1, ts_v p2] M (ts_Rr g Q) := by
  intro h0
  refine ts_Con.of hl (by decide) (Nat.le_of_ble_eq_true rfl) ?_
  intro p e s m args below meth c C
  have H35 : ∀ (z0 : Int) (M : ts_M), wX9_refusalOfMop_B35 b  Q z0 M → ts_V p l e (ts_rm 2 0 0) s m args below meth c g 3 0 0 (MQ below (ts_Q g (ts_Rr g Q)) args s 0 0 (ts_A g)) 35 [] [ts_rv g z0] M := by
    intro  z0 M
    unfold wX9_refusalOfMop_B35
    exact ts_rreti C (Nat.zero_le _) (Nat.zero_le _) dX9_refusalOfMop_35
  revert h0
  unfold wX9_refusalOfMop
  have hl0 : lv_args 0 [.ref (ts_ad g b), ts_v p1, ts_v p2] = [(0, .ref (ts_ad g b)), (1, ts_v p1), (2, ts_v p2)] := rfl
  rw [hl0]
  refine ts_iload_n C dX9_refusalOfMop_0 rfl 1 rfl ?_
  refine ts_iload_n C dX9_refusalOfMop_1 rfl 2 rfl ?_
  refine ts_callSi C [ts_v p1, ts_v p2] (mX1_hasCell hl) kX1_hasCell q_1162 rfl rfl (Nat.le_of_ble_eq_true rfl) ⟨Nat.le_of_ble_eq_true rfl, Nat.le_of_ble_eq_true rfl⟩ ⟨Nat.le_of_ble_eq_true rfl, Nat.le_of_ble_eq_true rfl⟩ dX9_refusalOfMop_2 (fun r2 M1 => ?_)
  refine ts_cm0_ne C rfl 12 dX9_refusalOfMop_5 rfl ?_ ?_
  · refine ts_aload_n C dX9_refusalOfMop_12 rfl 0 rfl ?_
    refine tgX9_3 hb C q_297 dX9_refusalOfMop_13 ?_
    refine ts_iload_n C dX9_refusalOfMop_16 rfl 1 rfl ?_
    refine ts_iload_n C dX9_refusalOfMop_17 rfl 2 rfl ?_
    refine ts_callVl C [ts_v p1, ts_v p2] (mX1_wetAt hl hb) kX1_wetAt q_1170 (ts_lt hb 11 (by decide)) (shX1 hb) rfl rfl rfl (Nat.le_of_ble_eq_true rfl) ⟨Nat.le_of_ble_eq_true rfl, Nat.le_of_ble_eq_true rfl⟩ ⟨Nat.le_of_ble_eq_true rfl, Nat.le_of_ble_eq_true rfl⟩ dX9_refusalOfMop_18 (fun r4 M3 => ?_)
    refine ts_lconst C dX9_refusalOfMop_21 0 rfl ?_
    refine ts_lcmp C dX9_refusalOfMop_22 ?_
    refine ts_lif_ne C 32 dX9_refusalOfMop_23 rfl ?_ ?_
    · refine ts_getR C 0 (by decide) q_1122 dX9_refusalOfMop_32 ?_
      exact ts_sub [] rfl (H35 _ _)
    · refine ts_getR C 2 (by decide) q_1120 dX9_refusalOfMop_26 ?_
      refine ts_goto C 35 dX9_refusalOfMop_29 rfl ?_
      exact ts_sub [] rfl (H35 _ _)
  · refine ts_getR C 3 (by decide) q_1156 dX9_refusalOfMop_8 ?_
    exact ts_rreti C (Nat.zero_le _) (Nat.zero_le _) dX9_refusalOfMop_11
def wX9_refusalOfSugar_B34 (b : Nat)  (Q : Int → ts_M → Prop)  (z0 : Int) (M : ts_M) : Prop :=
  Q z0 M
def wX9_refusalOfSugar (b : Nat) (p1 : Int) (p2 : Int) (Q : Int → ts_M → Prop) (M : ts_M) : Prop :=
  (wX8_has b p1 (fun r2 M1 => ((¬ (ts_w r2 = 0) → (wX11_isBetween p2 1 9 (fun r4 M3 => ((ts_w r4 = 0 → wX9_refusalOfSugar_B34 b Q 1 M3) ∧ (¬ (ts_w r4 = 0) → wX9_refusalOfSugar_B34 b Q 0 M3))) M1)) ∧ (ts_w r2 = 0 → Q 3 M1))) M)
set_option maxRecDepth 100000 in
set_option maxHeartbeats 4000000 in
theorem mX9_refusalOfSugar {l : Launch} {g : ts_W} (hl : l.stackTraces = false) {b : Nat} (hb : ts_isS b) {p1 : Int} {p2 : Int} {Q : Int → ts_M → Prop} {M : ts_M} : wX9_refusalOfSugar b p1 p2 Q M → ts_Con l g yX9_refusalOfSugar cX9_refusalOfSugar 3 (some (.object "TeaspoonSalon$Refusal")) 1 0 0 [.ref (ts_ad g b), ts_v p1, ts_v p2] M (ts_Rr g Q) := by
  intro h0
  refine ts_Con.of hl (by decide) (Nat.le_of_ble_eq_true rfl) ?_
  intro p e s m args below meth c C
  have H34 : ∀ (z0 : Int) (M : ts_M), wX9_refusalOfSugar_B34 b  Q z0 M → ts_V p l e (ts_rm 1 0 0) s m args below meth c g 3 0 0 (MQ below (ts_Q g (ts_Rr g Q)) args s 0 0 (ts_A g)) 34 [] [ts_rv g z0] M := by
    intro  z0 M
    unfold wX9_refusalOfSugar_B34
    exact ts_rreti C (Nat.zero_le _) (Nat.zero_le _) dX9_refusalOfSugar_34
  revert h0
  unfold wX9_refusalOfSugar
  have hl0 : lv_args 0 [.ref (ts_ad g b), ts_v p1, ts_v p2] = [(0, .ref (ts_ad g b)), (1, ts_v p1), (2, ts_v p2)] := rfl
  rw [hl0]
  refine ts_aload_n C dX9_refusalOfSugar_0 rfl 0 rfl ?_
  refine tgX9_0 hb C q_289 dX9_refusalOfSugar_1 ?_
  refine ts_iload_n C dX9_refusalOfSugar_4 rfl 1 rfl ?_
  refine ts_callVi C [ts_v p1] (mX8_has hl hb) kX8_has q_1152 (ts_lt hb 1 (by decide)) (shX8 hb) rfl rfl rfl (Nat.le_of_ble_eq_true rfl) ⟨Nat.le_of_ble_eq_true rfl, Nat.le_of_ble_eq_true rfl⟩ ⟨Nat.le_of_ble_eq_true rfl, Nat.le_of_ble_eq_true rfl⟩ dX9_refusalOfSugar_5 (fun r2 M1 => ?_)
  refine ts_cm0_ne C rfl 15 dX9_refusalOfSugar_8 rfl ?_ ?_
  · refine ts_iload_n C dX9_refusalOfSugar_15 rfl 2 rfl ?_
    refine ts_iconst C dX9_refusalOfSugar_16 1 rfl ?_
    refine ts_bipush C dX9_refusalOfSugar_17 9 tb_9 ?_
    refine ts_callSNi (host := "TeaspoonSalon") C [ts_v p2, ts_v 1, ts_v 9] (mX11_isBetween hl) kX11_isBetween qn_13 rfl rfl (Nat.le_of_ble_eq_true rfl) ⟨Nat.le_of_ble_eq_true rfl, Nat.le_of_ble_eq_true rfl⟩ ⟨Nat.le_of_ble_eq_true rfl, Nat.le_of_ble_eq_true rfl⟩ dX9_refusalOfSugar_19 (fun r4 M3 => ?_)
    refine ts_cm0_eq C rfl 31 dX9_refusalOfSugar_22 rfl ?_ ?_
    · refine ts_getR C 1 (by decide) q_1105 dX9_refusalOfSugar_31 ?_
      exact ts_sub [] rfl (H34 _ _)
    · refine ts_getR C 0 (by decide) q_1122 dX9_refusalOfSugar_25 ?_
      refine ts_goto C 34 dX9_refusalOfSugar_28 rfl ?_
      exact ts_sub [] rfl (H34 _ _)
  · refine ts_getR C 3 (by decide) q_1156 dX9_refusalOfSugar_11 ?_
    exact ts_rreti C (Nat.zero_le _) (Nat.zero_le _) dX9_refusalOfSugar_14
def wJ6_bitCount_0f7a4 (p1 : Int) (Q : Int → ts_M → Prop) (M : ts_M) : Prop :=
  (∀ x1 : Int, x1 = p1 - (ts_and (ts_ushr p1 1) 1431655765) → (∀ x2 : Int, x2 = (ts_and x1 858993459) + (ts_and (ts_ushr x1 2) 858993459) → (∀ x3 : Int, x3 = ts_and (x2 + (ts_ushr x2 4)) 252645135 → (∀ x4 : Int, x4 = x3 + (ts_ushr x3 8) → (∀ x5 : Int, x5 = x4 + (ts_ushr x4 16) → Q (ts_and x5 63) M)))))
set_option maxRecDepth 100000 in
set_option maxHeartbeats 4000000 in
theorem mJ6_bitCount_0f7a4 {l : Launch} {g : ts_W} (hl : l.stackTraces = false) {p1 : Int} {Q : Int → ts_M → Prop} {M : ts_M} : wJ6_bitCount_0f7a4 p1 Q M → ts_Con l g yJ6_bitCount_0f7a4 cJ6_bitCount_0f7a4 1 (some .int) 0 0 0 [ts_v p1] M (ts_Ri Q) := by
  intro h0
  refine ts_Con.of hl (by decide) (Nat.le_of_ble_eq_true rfl) ?_
  intro p e s m args below meth c C
  revert h0
  unfold wJ6_bitCount_0f7a4
  have hl0 : lv_args 0 [ts_v p1] = [(0, ts_v p1)] := rfl
  rw [hl0]
  refine ts_iload_n C dJ6_bitCount_0f7a4_0 rfl 0 rfl ?_
  refine ts_iload_n C dJ6_bitCount_0f7a4_1 rfl 0 rfl ?_
  refine ts_iconst C dJ6_bitCount_0f7a4_2 1 rfl ?_
  refine ts_iushr C dJ6_bitCount_0f7a4_3 ?_
  refine ts_ldcw C dJ6_bitCount_0f7a4_4 q_613 1431655765 (by decide) ?_
  refine ts_iand C dJ6_bitCount_0f7a4_7 ?_
  refine ts_isub C dJ6_bitCount_0f7a4_8 ?_
  refine ts_istore_n C dJ6_bitCount_0f7a4_9 rfl (by decide) (lv' := fun x1 => [(0, ts_v x1)]) (fun _ => rfl) (fun x1 => ?_)
  refine ts_iload_n C dJ6_bitCount_0f7a4_10 rfl 0 rfl ?_
  refine ts_ldcw C dJ6_bitCount_0f7a4_11 q_614 858993459 (by decide) ?_
  refine ts_iand C dJ6_bitCount_0f7a4_14 ?_
  refine ts_iload_n C dJ6_bitCount_0f7a4_15 rfl 0 rfl ?_
  refine ts_iconst C dJ6_bitCount_0f7a4_16 2 rfl ?_
  refine ts_iushr C dJ6_bitCount_0f7a4_17 ?_
  refine ts_ldcw C dJ6_bitCount_0f7a4_18 q_614 858993459 (by decide) ?_
  refine ts_iand C dJ6_bitCount_0f7a4_21 ?_
  refine ts_iadd C dJ6_bitCount_0f7a4_22 ?_
  refine ts_istore_n C dJ6_bitCount_0f7a4_23 rfl (by decide) (lv' := fun x2 => [(0, ts_v x2)]) (fun _ => rfl) (fun x2 => ?_)
  refine ts_iload_n C dJ6_bitCount_0f7a4_24 rfl 0 rfl ?_
  refine ts_iload_n C dJ6_bitCount_0f7a4_25 rfl 0 rfl ?_
  refine ts_iconst C dJ6_bitCount_0f7a4_26 4 rfl ?_
  refine ts_iushr C dJ6_bitCount_0f7a4_27 ?_
  refine ts_iadd C dJ6_bitCount_0f7a4_28 ?_
  refine ts_ldcw C dJ6_bitCount_0f7a4_29 q_615 252645135 (by decide) ?_
  refine ts_iand C dJ6_bitCount_0f7a4_32 ?_
  refine ts_istore_n C dJ6_bitCount_0f7a4_33 rfl (by decide) (lv' := fun x3 => [(0, ts_v x3)]) (fun _ => rfl) (fun x3 => ?_)
  refine ts_iload_n C dJ6_bitCount_0f7a4_34 rfl 0 rfl ?_
  refine ts_iload_n C dJ6_bitCount_0f7a4_35 rfl 0 rfl ?_
  refine ts_bipush C dJ6_bitCount_0f7a4_36 8 tb_8 ?_
  refine ts_iushr C dJ6_bitCount_0f7a4_38 ?_
  refine ts_iadd C dJ6_bitCount_0f7a4_39 ?_
  refine ts_istore_n C dJ6_bitCount_0f7a4_40 rfl (by decide) (lv' := fun x4 => [(0, ts_v x4)]) (fun _ => rfl) (fun x4 => ?_)
  refine ts_iload_n C dJ6_bitCount_0f7a4_41 rfl 0 rfl ?_
  refine ts_iload_n C dJ6_bitCount_0f7a4_42 rfl 0 rfl ?_
  refine ts_bipush C dJ6_bitCount_0f7a4_43 16 tb_16 ?_
  refine ts_iushr C dJ6_bitCount_0f7a4_45 ?_
  refine ts_iadd C dJ6_bitCount_0f7a4_46 ?_
  refine ts_istore_n C dJ6_bitCount_0f7a4_47 rfl (by decide) (lv' := fun x5 => [(0, ts_v x5)]) (fun _ => rfl) (fun x5 => ?_)
  refine ts_iload_n C dJ6_bitCount_0f7a4_48 rfl 0 rfl ?_
  refine ts_bipush C dJ6_bitCount_0f7a4_49 63 tb_63 ?_
  refine ts_iand C dJ6_bitCount_0f7a4_51 ?_
  exact ts_ireti C (Nat.zero_le _) (Nat.zero_le _) dJ6_bitCount_0f7a4_52
def wJ0_coder_7d493_B14 (q : Nat)  (Q : Int → ts_M → Prop)  (z0 : Int) (M : ts_M) : Prop :=
  ((-128 ≤ ts_w z0 ∧ ts_w z0 < 128) ∧ Q z0 M)
def wJ0_coder_7d493 (q : Nat) (Q : Int → ts_M → Prop) (M : ts_M) : Prop :=
  (((1 : Int) = 0 → wJ0_coder_7d493_B14 q Q 1 M) ∧ (¬ ((1 : Int) = 0) → wJ0_coder_7d493_B14 q Q 0 M))
set_option maxRecDepth 100000 in
set_option maxHeartbeats 4000000 in
theorem mJ0_coder_7d493 {l : Launch} {g : ts_W} (hl : l.stackTraces = false) {q : Nat} (hq : q < 13) {Q : Int → ts_M → Prop} {M : ts_M} : wJ0_coder_7d493 q Q M → ts_Con l g yJ0_coder_7d493 cJ0_coder_7d493 1 (some .byte) 0 0 0 [ts_kv g q] M (ts_Ri Q) := by
  intro h0
  refine ts_Con.of hl (by decide) (Nat.le_of_ble_eq_true rfl) ?_
  intro p e s m args below meth c C
  have H14 : ∀ (z0 : Int) (M : ts_M), wJ0_coder_7d493_B14 q  Q z0 M → ts_V p l e (ts_rm 0 0 0) s m args below meth c g 1 0 0 (MQ below (ts_Q g (ts_Ri Q)) args s 0 0 (ts_A g)) 14 [] [ts_v z0] M := by
    intro  z0 M
    unfold wJ0_coder_7d493_B14
    exact ts_breti C (Nat.zero_le _) (Nat.zero_le _) dJ0_coder_7d493_14
  revert h0
  unfold wJ0_coder_7d493
  have hl0 : lv_args 0 [ts_kv g q] = [(0, ts_kv g q)] := rfl
  rw [hl0]
  refine ts_getCS C q_755 dJ0_coder_7d493_0 ?_
  refine ts_cm0_eq C tw_1 13 dJ0_coder_7d493_3 rfl ?_ ?_
  · refine ts_iconst C dJ0_coder_7d493_13 1 rfl ?_
    exact ts_sub [] rfl (H14 _ _)
  · refine ts_aload_n C dJ0_coder_7d493_6 rfl 0 rfl ?_
    refine ts_getSc C hq q_942 dJ0_coder_7d493_7 ?_
    refine ts_goto C 14 dJ0_coder_7d493_10 rfl ?_
    exact ts_sub [] rfl (H14 _ _)
def wJ0_isLatin1_aae02_B18 (q : Nat)  (Q : Int → ts_M → Prop)  (z0 : Int) (M : ts_M) : Prop :=
  ((ts_w z0 = 0 ∨ ts_w z0 = 1) ∧ Q z0 M)
def wJ0_isLatin1_aae02_B17 (q : Nat)  (Q : Int → ts_M → Prop)   (M : ts_M) : Prop :=
  wJ0_isLatin1_aae02_B18 q Q 0 M
def wJ0_isLatin1_aae02 (q : Nat) (Q : Int → ts_M → Prop) (M : ts_M) : Prop :=
  (((1 : Int) = 0 → wJ0_isLatin1_aae02_B17 q Q M) ∧ (¬ ((1 : Int) = 0) → ((¬ ((0 : Int) = 0) → wJ0_isLatin1_aae02_B17 q Q M) ∧ ((0 : Int) = 0 → wJ0_isLatin1_aae02_B18 q Q 1 M))))
set_option maxRecDepth 100000 in
set_option maxHeartbeats 4000000 in
theorem mJ0_isLatin1_aae02 {l : Launch} {g : ts_W} (hl : l.stackTraces = false) {q : Nat} (hq : q < 13) {Q : Int → ts_M → Prop} {M : ts_M} : wJ0_isLatin1_aae02 q Q M → ts_Con l g yJ0_isLatin1_aae02 cJ0_isLatin1_aae02 1 (some .boolean) 0 0 0 [ts_kv g q] M (ts_Ri Q) := by
  intro h0
  refine ts_Con.of hl (by decide) (Nat.le_of_ble_eq_true rfl) ?_
  intro p e s m args below meth c C
  have H18 : ∀ (z0 : Int) (M : ts_M), wJ0_isLatin1_aae02_B18 q  Q z0 M → ts_V p l e (ts_rm 0 0 0) s m args below meth c g 1 0 0 (MQ below (ts_Q g (ts_Ri Q)) args s 0 0 (ts_A g)) 18 [] [ts_v z0] M := by
    intro  z0 M
    unfold wJ0_isLatin1_aae02_B18
    exact ts_zreti C (Nat.zero_le _) (Nat.zero_le _) dJ0_isLatin1_aae02_18
  have H17 : ∀  (M : ts_M), wJ0_isLatin1_aae02_B17 q  Q  M → ts_V p l e (ts_rm 0 0 0) s m args below meth c g 1 0 0 (MQ below (ts_Q g (ts_Ri Q)) args s 0 0 (ts_A g)) 17 [] [] M := by
    intro   M
    unfold wJ0_isLatin1_aae02_B17
    refine ts_iconst C dJ0_isLatin1_aae02_17 0 rfl ?_
    exact ts_sub [] rfl (H18 _ _)
  revert h0
  unfold wJ0_isLatin1_aae02
  have hl0 : lv_args 0 [ts_kv g q] = [(0, ts_kv g q)] := rfl
  rw [hl0]
  refine ts_getCS C q_755 dJ0_isLatin1_aae02_0 ?_
  refine ts_cm0_eq C tw_1 17 dJ0_isLatin1_aae02_3 rfl ?_ ?_
  · exact ts_sub [] rfl (H17 _)
  · refine ts_aload_n C dJ0_isLatin1_aae02_6 rfl 0 rfl ?_
    refine ts_getSc C hq q_942 dJ0_isLatin1_aae02_7 ?_
    refine ts_cm0_ne C tw_0 17 dJ0_isLatin1_aae02_10 rfl ?_ ?_
    · exact ts_sub [] rfl (H17 _)
    · refine ts_iconst C dJ0_isLatin1_aae02_13 1 rfl ?_
      refine ts_goto C 18 dJ0_isLatin1_aae02_14 rfl ?_
      exact ts_sub [] rfl (H18 _ _)
def wJ1_canEncode_9a6ad_B16   (Q : Int → ts_M → Prop)  (z0 : Int) (M : ts_M) : Prop :=
  ((ts_w z0 = 0 ∨ ts_w z0 = 1) ∧ Q z0 M)
def wJ1_canEncode_9a6ad_B15   (Q : Int → ts_M → Prop)   (M : ts_M) : Prop :=
  wJ1_canEncode_9a6ad_B16 Q 0 M
def wJ1_canEncode_9a6ad (p1 : Int) (Q : Int → ts_M → Prop) (M : ts_M) : Prop :=
  ((ts_w p1 < 0 → wJ1_canEncode_9a6ad_B15 Q M) ∧ (¬ (ts_w p1 < 0) → ((255 < ts_w p1 → wJ1_canEncode_9a6ad_B15 Q M) ∧ (¬ (255 < ts_w p1) → wJ1_canEncode_9a6ad_B16 Q 1 M))))
set_option maxRecDepth 100000 in
set_option maxHeartbeats 4000000 in
theorem mJ1_canEncode_9a6ad {l : Launch} {g : ts_W} (hl : l.stackTraces = false) {p1 : Int} {Q : Int → ts_M → Prop} {M : ts_M} : wJ1_canEncode_9a6ad p1 Q M → ts_Con l g yJ1_canEncode_9a6ad cJ1_canEncode_9a6ad 1 (some .boolean) 0 0 0 [ts_v p1] M (ts_Ri Q) := by
  intro h0
  refine ts_Con.of hl (by decide) (Nat.le_of_ble_eq_true rfl) ?_
  intro p e s m args below meth c C
  have H16 : ∀ (z0 : Int) (M : ts_M), wJ1_canEncode_9a6ad_B16   Q z0 M → ts_V p l e (ts_rm 0 0 0) s m args below meth c g 1 0 0 (MQ below (ts_Q g (ts_Ri Q)) args s 0 0 (ts_A g)) 16 [] [ts_v z0] M := by
    intro  z0 M
    unfold wJ1_canEncode_9a6ad_B16
    exact ts_zreti C (Nat.zero_le _) (Nat.zero_le _) dJ1_canEncode_9a6ad_16
  have H15 : ∀  (M : ts_M), wJ1_canEncode_9a6ad_B15   Q  M → ts_V p l e (ts_rm 0 0 0) s m args below meth c g 1 0 0 (MQ below (ts_Q g (ts_Ri Q)) args s 0 0 (ts_A g)) 15 [] [] M := by
    intro   M
    unfold wJ1_canEncode_9a6ad_B15
    refine ts_iconst C dJ1_canEncode_9a6ad_15 0 rfl ?_
    exact ts_sub [] rfl (H16 _ _)
  revert h0
  unfold wJ1_canEncode_9a6ad
  have hl0 : lv_args 0 [ts_v p1] = [(0, ts_v p1)] := rfl
  rw [hl0]
  refine ts_iload_n C dJ1_canEncode_9a6ad_0 rfl 0 rfl ?_
  refine ts_cm0_lt C rfl 15 dJ1_canEncode_9a6ad_1 rfl ?_ ?_
  · exact ts_sub [] rfl (H15 _)
  · refine ts_iload_n C dJ1_canEncode_9a6ad_4 rfl 0 rfl ?_
    refine ts_sipush C dJ1_canEncode_9a6ad_5 255 tsp_255 ?_
    refine ts_cmp_gt C rfl tw_255 15 dJ1_canEncode_9a6ad_8 rfl ?_ ?_
    · exact ts_sub [] rfl (H15 _)
    · refine ts_iconst C dJ1_canEncode_9a6ad_11 1 rfl ?_
      refine ts_goto C 16 dJ1_canEncode_9a6ad_12 rfl ?_
      exact ts_sub [] rfl (H16 _ _)
def wJ1_indexOfChar_4cfef_L7 (q : Nat)  (Q : Int → ts_M → Prop) (k7 : Int → Int → Int → ts_M → Prop) (y3 : Int) (y4 : Int) (y5 : Int) (M : ts_M) : Prop :=
  ((ts_w y3 ≤ ts_w y5 → Q (-1) M) ∧ (¬ (ts_w y3 ≤ ts_w y5) → ((0 ≤ ts_w y5 ∧ ts_w y5 < ts_ln q) ∧ ((¬ (ts_w (ts_bt q (ts_w y5)) = ts_w y4) → (∀ x3 : Int, x3 = y5 + 1 → k7 y3 y4 x3 M)) ∧ (ts_w (ts_bt q (ts_w y5)) = ts_w y4 → Q y5 M)))))
def wJ1_indexOfChar_4cfef (q : Nat) (p2 : Int) (p3 : Int) (p4 : Int) (Q : Int → ts_M → Prop) (M : ts_M) : Prop :=
  (∀ x1 : Int, x1 = ts_i2b p2 → (∀ x2 : Int, x2 = p3 → ∃ n, ts_lp3 (wJ1_indexOfChar_4cfef_L7 q Q) n p4 x1 x2 M))
set_option maxRecDepth 100000 in
set_option maxHeartbeats 4000000 in
theorem mJ1_indexOfChar_4cfef {l : Launch} {g : ts_W} (hl : l.stackTraces = false) {q : Nat} (hq : q < 13) {p2 : Int} {p3 : Int} {p4 : Int} {Q : Int → ts_M → Prop} {M : ts_M} : wJ1_indexOfChar_4cfef q p2 p3 p4 Q M → ts_Con l g yJ1_indexOfChar_4cfef cJ1_indexOfChar_4cfef 6 (some .int) 0 0 0 [ts_bv g q, ts_v p2, ts_v p3, ts_v p4] M (ts_Ri Q) := by
  intro h0
  refine ts_Con.of hl (by decide) (Nat.le_of_ble_eq_true rfl) ?_
  intro p e s m args below meth c C
  have H7 : ∀ (n : Nat) (y3 : Int) (y4 : Int) (y5 : Int) (M : ts_M), ts_lp3 (wJ1_indexOfChar_4cfef_L7 q  Q) n y3 y4 y5 M → ts_V p l e (ts_rm 0 0 0) s m args below meth c g 6 0 0 (MQ below (ts_Q g (ts_Ri Q)) args s 0 0 (ts_A g)) 7 [(0, ts_bv g q), (3, ts_v y3), (4, ts_v y4), (5, ts_v y5)] [] M := by
    refine ts_lpr3 (V := fun (y3 : Int) (y4 : Int) (y5 : Int) (M : ts_M) => ts_V p l e (ts_rm 0 0 0) s m args below meth c g 6 0 0 (MQ below (ts_Q g (ts_Ri Q)) args s 0 0 (ts_A g)) 7 [(0, ts_bv g q), (3, ts_v y3), (4, ts_v y4), (5, ts_v y5)] [] M) ?_
    intro k7 hk7 y3 y4 y5 M
    unfold wJ1_indexOfChar_4cfef_L7
    refine ts_iload C dJ1_indexOfChar_4cfef_7 3 rfl ?_
    refine ts_iload_n C dJ1_indexOfChar_4cfef_9 rfl 1 rfl ?_
    refine ts_cmp_ge C rfl rfl 31 dJ1_indexOfChar_4cfef_10 rfl ?_ ?_
    · refine ts_iconst C dJ1_indexOfChar_4cfef_31 (-1) rfl ?_
      exact ts_ireti C (Nat.zero_le _) (Nat.zero_le _) dJ1_indexOfChar_4cfef_32
    · refine ts_aload_n C dJ1_indexOfChar_4cfef_13 rfl 0 rfl ?_
      refine ts_iload C dJ1_indexOfChar_4cfef_14 3 rfl ?_
      refine ts_cbald C hq dJ1_indexOfChar_4cfef_16 ?_
      refine ts_iload C dJ1_indexOfChar_4cfef_17 2 rfl ?_
      refine ts_cmp_ne C rfl rfl 25 dJ1_indexOfChar_4cfef_19 rfl ?_ ?_
      · refine ts_iinc C dJ1_indexOfChar_4cfef_25 3 rfl (by decide) (lv' := fun x3 => [(5, ts_v x3), (0, ts_bv g q), (3, ts_v y3), (4, ts_v y4)]) (fun _ => rfl) (fun x3 => ?_)
        refine ts_goto C 7 dJ1_indexOfChar_4cfef_28 rfl ?_
        exact ts_sub [1, 2, 3, 0] rfl (hk7 _ _ _ _)
      · refine ts_iload C dJ1_indexOfChar_4cfef_22 3 rfl ?_
        exact ts_ireti C (Nat.zero_le _) (Nat.zero_le _) dJ1_indexOfChar_4cfef_24
  revert h0
  unfold wJ1_indexOfChar_4cfef
  have hl0 : lv_args 0 [ts_bv g q, ts_v p2, ts_v p3, ts_v p4] = [(0, ts_bv g q), (1, ts_v p2), (2, ts_v p3), (3, ts_v p4)] := rfl
  rw [hl0]
  refine ts_iload_n C dJ1_indexOfChar_4cfef_0 rfl 1 rfl ?_
  refine ts_i2b0 C dJ1_indexOfChar_4cfef_1 ?_
  refine ts_istore C dJ1_indexOfChar_4cfef_2 (by decide) (lv' := fun x1 => [(4, ts_v x1), (0, ts_bv g q), (1, ts_v p2), (2, ts_v p3), (3, ts_v p4)]) (fun _ => rfl) (fun x1 => ?_)
  refine ts_iload_n C dJ1_indexOfChar_4cfef_4 rfl 3 rfl ?_
  refine ts_istore C dJ1_indexOfChar_4cfef_5 (by decide) (lv' := fun x2 => [(5, ts_v x2), (4, ts_v x1), (0, ts_bv g q), (1, ts_v p2), (2, ts_v p3), (3, ts_v p4)]) (fun _ => rfl) (fun x2 => ?_)
  rintro ⟨n, hn⟩
  exact ts_sub [2, 5, 1, 0] rfl (H7 n _ _ _ _) hn
def wJ3_checkIndex_8e157 (p1 : Int) (p2 : Int) (Q : Int → ts_M → Prop) (M : ts_M) : Prop :=
  ((ts_w p1 < 0 → False) ∧ (¬ (ts_w p1 < 0) → ((ts_w p1 < ts_w p2 → Q p1 M) ∧ (¬ (ts_w p1 < ts_w p2) → False))))
set_option maxRecDepth 100000 in
set_option maxHeartbeats 4000000 in
theorem mJ3_checkIndex_8e157 {l : Launch} {g : ts_W} (hl : l.stackTraces = false) {p3 : Option Nat} {p1 : Int} {p2 : Int} {Q : Int → ts_M → Prop} {M : ts_M} : wJ3_checkIndex_8e157 p1 p2 Q M → ts_Con l g yJ3_checkIndex_8e157 cJ3_checkIndex_8e157 3 (some .int) 0 0 0 [ts_v p1, ts_v p2, va_rf p3] M (ts_Ri Q) := by
  intro h0
  refine ts_Con.of hl (by decide) (by cases p3 <;> exact Nat.le_of_ble_eq_true rfl) ?_
  intro p e s m args below meth c C
  revert h0
  unfold wJ3_checkIndex_8e157
  have hl0 : lv_args 0 [ts_v p1, ts_v p2, va_rf p3] = [(0, ts_v p1), (1, ts_v p2), (2, va_rf p3)] := (by cases p3 <;> rfl)
  rw [hl0]
  refine ts_iload_n C dJ3_checkIndex_8e157_0 rfl 0 rfl ?_
  refine ts_cm0_lt C rfl 9 dJ3_checkIndex_8e157_1 rfl ?_ ?_
  · exact fun h => h.elim
  · refine ts_iload_n C dJ3_checkIndex_8e157_4 rfl 0 rfl ?_
    refine ts_iload_n C dJ3_checkIndex_8e157_5 rfl 1 rfl ?_
    refine ts_cmp_lt C rfl rfl 16 dJ3_checkIndex_8e157_6 rfl ?_ ?_
    · refine ts_iload_n C dJ3_checkIndex_8e157_16 rfl 0 rfl ?_
      exact ts_ireti C (Nat.zero_le _) (Nat.zero_le _) dJ3_checkIndex_8e157_17
    · exact fun h => h.elim
def wX11_copyRow (a1 : Nat) (n1 : Nat) (a2 : Nat) (n2 : Nat) (Q : ts_M → Prop) (M : ts_M) : Prop :=
  (wJ9_min_7cf53 ((n1 : Nat) : Int) ((n2 : Nat) : Int) (fun r2 M1 => ((0 ≤ ts_w r2 ∧ ts_w r2 ≤ ((n1 : Nat) : Int) ∧ ts_w r2 ≤ ((n2 : Nat) : Int)) ∧ ∀ M3, M3 = ts_cpy M1 a1 a2 (ts_w r2) → Q M3)) M)
set_option maxRecDepth 100000 in
set_option maxHeartbeats 4000000 in
theorem mX11_copyRow {l : Launch} {g : ts_W} (hl : l.stackTraces = false) {a1 : Nat} {n1 : Nat} {a2 : Nat} {n2 : Nat} (ha1 : a1 < 177) (ha1G : ∀ f h d, ts_G g a1 f h d = ts_ia g n1 f) (ha2 : a2 < 177) (ha2G : ∀ f h d, ts_G g a2 f h d = ts_ia g n2 f) {Q : ts_M → Prop} {M : ts_M} : wX11_copyRow a1 n1 a2 n2 Q M → ts_Con l g yX11_copyRow cX11_copyRow 2 none 2 0 0 [.ref (ts_ad g a1), .ref (ts_ad g a2)] M (ts_Rv Q) := by
  intro h0
  refine ts_Con.of hl (by decide) (Nat.le_of_ble_eq_true rfl) ?_
  intro p e s m args below meth c C
  revert h0
  unfold wX11_copyRow
  have hl0 : lv_args 0 [.ref (ts_ad g a1), .ref (ts_ad g a2)] = [(0, .ref (ts_ad g a1)), (1, .ref (ts_ad g a2))] := rfl
  rw [hl0]
  refine ts_aload_n C dX11_copyRow_0 rfl 0 rfl ?_
  refine ts_iconst C dX11_copyRow_1 0 rfl ?_
  refine ts_aload_n C dX11_copyRow_2 rfl 1 rfl ?_
  refine ts_iconst C dX11_copyRow_3 0 rfl ?_
  refine ts_aload_n C dX11_copyRow_4 rfl 0 rfl ?_
  refine ts_alenI C ha1 ha1G dX11_copyRow_5 ?_
  refine ts_aload_n C dX11_copyRow_6 rfl 1 rfl ?_
  refine ts_alenI C ha2 ha2G dX11_copyRow_7 ?_
  refine ts_callSi C [ts_v ((n1 : Nat) : Int), ts_v ((n2 : Nat) : Int)] (mJ9_min_7cf53 hl) kJ9_min_7cf53 q_1073 rfl rfl (Nat.le_of_ble_eq_true rfl) ⟨Nat.le_of_ble_eq_true rfl, Nat.le_of_ble_eq_true rfl⟩ ⟨Nat.le_of_ble_eq_true rfl, Nat.le_of_ble_eq_true rfl⟩ dX11_copyRow_8 (fun r2 M1 => ?_)
  refine ts_copyI C ha1 ha2 ha1G ha2G q_1074 q_715 q_714 q_146 (Nat.le_of_ble_eq_true rfl) (Nat.le_of_ble_eq_true rfl) (Nat.le_of_ble_eq_true rfl) dX11_copyRow_11 (fun M3 => ?_)
  exact ts_vreti C (Nat.zero_le _) (Nat.zero_le _) dX11_copyRow_14
def wX4_copyFrom (b : Nat) (b2 : Nat) (Q : ts_M → Prop) (M : ts_M) : Prop :=
  (wX11_copyRow (b2 + 7) 6 (b + 7) 6 (fun M1 => (wX11_copyRow (b2 + 8) 6 (b + 8) 6 (fun M2 => (∀ M3, M3 = ts_si M2 (b + 6) 2 (M2.1 (b2 + 6) 2) → (∀ M4, M4 = ts_si M3 (b + 6) 3 (M3.1 (b2 + 6) 3) → Q M4))) M1)) M)
set_option maxRecDepth 100000 in
set_option maxHeartbeats 4000000 in
theorem mX4_copyFrom {l : Launch} {g : ts_W} (hl : l.stackTraces = false) {b : Nat} {b2 : Nat} (hb : ts_isS b) (hb2 : ts_isS b2) {Q : ts_M → Prop} {M : ts_M} : wX4_copyFrom b b2 Q M → ts_Con l g yX4_copyFrom cX4_copyFrom 2 none 3 0 0 [.ref (ts_ad g (b + 6)), .ref (ts_ad g (b2 + 6))] M (ts_Rv Q) := by
  intro h0
  refine ts_Con.of hl (by decide) (Nat.le_of_ble_eq_true rfl) ?_
  intro p e s m args below meth c C
  revert h0
  unfold wX4_copyFrom
  have hl0 : lv_args 0 [.ref (ts_ad g (b + 6)), .ref (ts_ad g (b2 + 6))] = [(0, .ref (ts_ad g (b + 6))), (1, .ref (ts_ad g (b2 + 6)))] := rfl
  rw [hl0]
  refine ts_aload_n C dX4_copyFrom_0 rfl 1 rfl ?_
  refine tgX4_0 hb2 C q_220 dX4_copyFrom_1 ?_
  refine ts_aload_n C dX4_copyFrom_4 rfl 0 rfl ?_
  refine tgX4_0 hb C q_220 dX4_copyFrom_5 ?_
  refine ts_callSNv (host := "TeaspoonSalon") C [.ref (ts_ad g (b2 + 7)), .ref (ts_ad g (b + 7))] (mX11_copyRow hl (ts_lt hb2 7 (by decide)) (shS7 hb2) (ts_lt hb 7 (by decide)) (shS7 hb)) kX11_copyRow qn_10 rfl rfl (Nat.le_of_ble_eq_true rfl) ⟨Nat.le_of_ble_eq_true rfl, Nat.le_of_ble_eq_true rfl⟩ ⟨Nat.le_of_ble_eq_true rfl, Nat.le_of_ble_eq_true rfl⟩ dX4_copyFrom_8 (fun M1 => ?_)
  refine ts_aload_n C dX4_copyFrom_11 rfl 1 rfl ?_
  refine tgX4_1 hb2 C q_223 dX4_copyFrom_12 ?_
  refine ts_aload_n C dX4_copyFrom_15 rfl 0 rfl ?_
  refine tgX4_1 hb C q_223 dX4_copyFrom_16 ?_
  refine ts_callSNv (host := "TeaspoonSalon") C [.ref (ts_ad g (b2 + 8)), .ref (ts_ad g (b + 8))] (mX11_copyRow hl (ts_lt hb2 8 (by decide)) (shS8 hb2) (ts_lt hb 8 (by decide)) (shS8 hb)) kX11_copyRow qn_10 rfl rfl (Nat.le_of_ble_eq_true rfl) ⟨Nat.le_of_ble_eq_true rfl, Nat.le_of_ble_eq_true rfl⟩ ⟨Nat.le_of_ble_eq_true rfl, Nat.le_of_ble_eq_true rfl⟩ dX4_copyFrom_19 (fun M2 => ?_)
  refine ts_aload_n C dX4_copyFrom_22 rfl 0 rfl ?_
  refine ts_aload_n C dX4_copyFrom_23 rfl 1 rfl ?_
  refine tgX4_2 hb2 C q_226 dX4_copyFrom_24 ?_
  refine tpX4_2 hb C q_226 dX4_copyFrom_27 (fun M3 => ?_)
  refine ts_aload_n C dX4_copyFrom_30 rfl 0 rfl ?_
  refine ts_aload_n C dX4_copyFrom_31 rfl 1 rfl ?_
  refine tgX4_3 hb2 C q_230 dX4_copyFrom_32 ?_
  refine tpX4_3 hb C q_230 dX4_copyFrom_35 (fun M4 => ?_)
  exact ts_vreti C (Nat.zero_le _) (Nat.zero_le _) dX4_copyFrom_38
def wX5_smallestTop_B36  (k7 : Int → Int → ts_M → Prop) (Q : Int → ts_M → Prop)  (y1 : Int) (y2 : Int) (M : ts_M) : Prop :=
  (∀ x11 : Int, x11 = y2 + 1 → k7 y1 x11 M)
def wX5_smallestTop_L7   (Q : Int → ts_M → Prop) (k7 : Int → Int → ts_M → Prop) (y1 : Int) (y2 : Int) (M : ts_M) : Prop :=
  (wX5_allPlaces  (fun r6 M5 => ((ts_w r6 ≤ ts_w y2 → Q y1 M5) ∧ (¬ (ts_w r6 ≤ ts_w y2) → (wJ6_bitCount_0f7a4 y2 (fun r8 M7 => (wJ6_bitCount_0f7a4 y1 (fun r10 M9 => ((ts_w r10 ≤ ts_w r8 → wX5_smallestTop_B36 k7 Q y1 y2 M9) ∧ (¬ (ts_w r10 ≤ ts_w r8) → (wX5_beatsAllOutside y2 (fun r13 M12 => ((ts_w r13 = 0 → wX5_smallestTop_B36 k7 Q y1 y2 M12) ∧ (¬ (ts_w r13 = 0) → (∀ x14 : Int, x14 = y2 → wX5_smallestTop_B36 k7 Q x14 y2 M12)))) M9)))) M7)) M5)))) M)
def wX5_smallestTop (Q : Int → ts_M → Prop) (M : ts_M) : Prop :=
  (wX5_allPlaces  (fun r2 M1 => (∀ x3 : Int, x3 = r2 → (∀ x4 : Int, x4 = 1 → ∃ n, ts_lp2 (wX5_smallestTop_L7 Q) n x3 x4 M1))) M)
set_option maxRecDepth 100000 in
set_option maxHeartbeats 4000000 in
theorem mX5_smallestTop {l : Launch} {g : ts_W} (hl : l.stackTraces = false) {Q : Int → ts_M → Prop} {M : ts_M} : wX5_smallestTop Q M → ts_Con l g yX5_smallestTop cX5_smallestTop 3 (some .int) 2 0 0 [.ref (ts_ad g 155)] M (ts_Ri Q) := by
  intro h0
  refine ts_Con.of hl (by decide) (Nat.le_of_ble_eq_true rfl) ?_
  intro p e s m args below meth c C
  have H36 : ∀ (k7 : Int → Int → ts_M → Prop) (hk7 : ∀ (y1 : Int) (y2 : Int) (M : ts_M), k7 y1 y2 M → ts_V p l e (ts_rm 2 0 0) s m args below meth c g 3 0 0 (MQ below (ts_Q g (ts_Ri Q)) args s 0 0 (ts_A g)) 7 [(0, .ref (ts_ad g 155)), (1, ts_v y1), (2, ts_v y2)] [] M) (y1 : Int) (y2 : Int) (M : ts_M), wX5_smallestTop_B36  k7 Q y1 y2 M → ts_V p l e (ts_rm 2 0 0) s m args below meth c g 3 0 0 (MQ below (ts_Q g (ts_Ri Q)) args s 0 0 (ts_A g)) 36 [(0, .ref (ts_ad g 155)), (1, ts_v y1), (2, ts_v y2)] [] M := by
    intro k7 hk7 y1 y2 M
    unfold wX5_smallestTop_B36
    refine ts_iinc C dX5_smallestTop_36 2 rfl (by decide) (lv' := fun x11 => [(2, ts_v x11), (0, .ref (ts_ad g 155)), (1, ts_v y1)]) (fun _ => rfl) (fun x11 => ?_)
    refine ts_goto C 7 dX5_smallestTop_39 rfl ?_
    exact ts_sub [1, 2, 0] rfl (hk7 _ _ _)
  have H7 : ∀ (n : Nat) (y1 : Int) (y2 : Int) (M : ts_M), ts_lp2 (wX5_smallestTop_L7   Q) n y1 y2 M → ts_V p l e (ts_rm 2 0 0) s m args below meth c g 3 0 0 (MQ below (ts_Q g (ts_Ri Q)) args s 0 0 (ts_A g)) 7 [(0, .ref (ts_ad g 155)), (1, ts_v y1), (2, ts_v y2)] [] M := by
    refine ts_lpr2 (V := fun (y1 : Int) (y2 : Int) (M : ts_M) => ts_V p l e (ts_rm 2 0 0) s m args below meth c g 3 0 0 (MQ below (ts_Q g (ts_Ri Q)) args s 0 0 (ts_A g)) 7 [(0, .ref (ts_ad g 155)), (1, ts_v y1), (2, ts_v y2)] [] M) ?_
    intro k7 hk7 y1 y2 M
    unfold wX5_smallestTop_L7
    refine ts_iload_n C dX5_smallestTop_7 rfl 2 rfl ?_
    refine ts_aload_n C dX5_smallestTop_8 rfl 0 rfl ?_
    refine ts_callVi C [] (mX5_allPlaces hl) kX5_allPlaces q_497 (by decide) shX5 rfl rfl rfl (Nat.le_of_ble_eq_true rfl) ⟨Nat.le_of_ble_eq_true rfl, Nat.le_of_ble_eq_true rfl⟩ ⟨Nat.le_of_ble_eq_true rfl, Nat.le_of_ble_eq_true rfl⟩ dX5_smallestTop_9 (fun r6 M5 => ?_)
    refine ts_cmp_ge C rfl rfl 42 dX5_smallestTop_12 rfl ?_ ?_
    · refine ts_iload_n C dX5_smallestTop_42 rfl 1 rfl ?_
      exact ts_ireti C (Nat.zero_le _) (Nat.zero_le _) dX5_smallestTop_43
    · refine ts_iload_n C dX5_smallestTop_15 rfl 2 rfl ?_
      refine ts_callSi C [ts_v y2] (mJ6_bitCount_0f7a4 hl) kJ6_bitCount_0f7a4 q_610 rfl rfl (Nat.le_of_ble_eq_true rfl) ⟨Nat.le_of_ble_eq_true rfl, Nat.le_of_ble_eq_true rfl⟩ ⟨Nat.le_of_ble_eq_true rfl, Nat.le_of_ble_eq_true rfl⟩ dX5_smallestTop_16 (fun r8 M7 => ?_)
      refine ts_iload_n C dX5_smallestTop_19 rfl 1 rfl ?_
      refine ts_callSi C [ts_v y1] (mJ6_bitCount_0f7a4 hl) kJ6_bitCount_0f7a4 q_610 rfl rfl (Nat.le_of_ble_eq_true rfl) ⟨Nat.le_of_ble_eq_true rfl, Nat.le_of_ble_eq_true rfl⟩ ⟨Nat.le_of_ble_eq_true rfl, Nat.le_of_ble_eq_true rfl⟩ dX5_smallestTop_20 (fun r10 M9 => ?_)
      refine ts_cmp_ge C rfl rfl 36 dX5_smallestTop_23 rfl ?_ ?_
      · exact ts_sub [0, 1, 2] rfl (H36 k7 hk7 _ _ _)
      · refine ts_aload_n C dX5_smallestTop_26 rfl 0 rfl ?_
        refine ts_iload_n C dX5_smallestTop_27 rfl 2 rfl ?_
        refine ts_callVi C [ts_v y2] (mX5_beatsAllOutside hl) kX5_beatsAllOutside q_616 (by decide) shX5 rfl rfl rfl (Nat.le_of_ble_eq_true rfl) ⟨Nat.le_of_ble_eq_true rfl, Nat.le_of_ble_eq_true rfl⟩ ⟨Nat.le_of_ble_eq_true rfl, Nat.le_of_ble_eq_true rfl⟩ dX5_smallestTop_28 (fun r13 M12 => ?_)
        refine ts_cm0_eq C rfl 36 dX5_smallestTop_31 rfl ?_ ?_
        · exact ts_sub [0, 1, 2] rfl (H36 k7 hk7 _ _ _)
        · refine ts_iload_n C dX5_smallestTop_34 rfl 2 rfl ?_
          refine ts_istore_n C dX5_smallestTop_35 rfl (by decide) (lv' := fun x14 => [(1, ts_v x14), (0, .ref (ts_ad g 155)), (2, ts_v y2)]) (fun _ => rfl) (fun x14 => ?_)
          exact ts_sub [1, 0, 2] rfl (H36 k7 hk7 _ _ _)
  revert h0
  unfold wX5_smallestTop
  have hl0 : lv_args 0 [.ref (ts_ad g 155)] = [(0, .ref (ts_ad g 155))] := rfl
  rw [hl0]
  refine ts_aload_n C dX5_smallestTop_0 rfl 0 rfl ?_
  refine ts_callVi C [] (mX5_allPlaces hl) kX5_allPlaces q_497 (by decide) shX5 rfl rfl rfl (Nat.le_of_ble_eq_true rfl) ⟨Nat.le_of_ble_eq_true rfl, Nat.le_of_ble_eq_true rfl⟩ ⟨Nat.le_of_ble_eq_true rfl, Nat.le_of_ble_eq_true rfl⟩ dX5_smallestTop_1 (fun r2 M1 => ?_)
  refine ts_istore_n C dX5_smallestTop_4 rfl (by decide) (lv' := fun x3 => [(1, ts_v x3), (0, .ref (ts_ad g 155))]) (fun _ => rfl) (fun x3 => ?_)
  refine ts_iconst C dX5_smallestTop_5 1 rfl ?_
  refine ts_istore_n C dX5_smallestTop_6 rfl (by decide) (lv' := fun x4 => [(2, ts_v x4), (1, ts_v x3), (0, .ref (ts_ad g 155))]) (fun _ => rfl) (fun x4 => ?_)
  rintro ⟨n, hn⟩
  exact ts_sub [2, 1, 0] rfl (H7 n _ _ _) hn
def wX5_topWaysAgree_L7   (Q : Int → ts_M → Prop) (k7 : Int → Int → ts_M → Prop) (y1 : Int) (y2 : Int) (M : ts_M) : Prop :=
  ((ts_w (M.1 155 2) ≤ ts_w y2 → Q 1 M) ∧ (¬ (ts_w (M.1 155 2) ≤ ts_w y2) → (wX5_leadsToAll y2 (fun r6 M5 => (wX5_isIn y2 y1 (fun r8 M7 => ((ts_w r6 = ts_w r8 → (∀ x9 : Int, x9 = y2 + 1 → k7 y1 x9 M7)) ∧ (¬ (ts_w r6 = ts_w r8) → Q 0 M7))) M5)) M)))
def wX5_topWaysAgree (Q : Int → ts_M → Prop) (M : ts_M) : Prop :=
  (wX5_smallestTop  (fun r2 M1 => (∀ x3 : Int, x3 = r2 → (∀ x4 : Int, x4 = 0 → ∃ n, ts_lp2 (wX5_topWaysAgree_L7 Q) n x3 x4 M1))) M)
set_option maxRecDepth 100000 in
set_option maxHeartbeats 4000000 in
theorem mX5_topWaysAgree {l : Launch} {g : ts_W} (hl : l.stackTraces = false) {Q : Int → ts_M → Prop} {M : ts_M} : wX5_topWaysAgree Q M → ts_Con l g yX5_topWaysAgree cX5_topWaysAgree 3 (some .boolean) 3 0 0 [.ref (ts_ad g 155)] M (ts_Ri Q) := by
  intro h0
  refine ts_Con.of hl (by decide) (Nat.le_of_ble_eq_true rfl) ?_
  intro p e s m args below meth c C
  have H7 : ∀ (n : Nat) (y1 : Int) (y2 : Int) (M : ts_M), ts_lp2 (wX5_topWaysAgree_L7   Q) n y1 y2 M → ts_V p l e (ts_rm 3 0 0) s m args below meth c g 3 0 0 (MQ below (ts_Q g (ts_Ri Q)) args s 0 0 (ts_A g)) 7 [(0, .ref (ts_ad g 155)), (1, ts_v y1), (2, ts_v y2)] [] M := by
    refine ts_lpr2 (V := fun (y1 : Int) (y2 : Int) (M : ts_M) => ts_V p l e (ts_rm 3 0 0) s m args below meth c g 3 0 0 (MQ below (ts_Q g (ts_Ri Q)) args s 0 0 (ts_A g)) 7 [(0, .ref (ts_ad g 155)), (1, ts_v y1), (2, ts_v y2)] [] M) ?_
    intro k7 hk7 y1 y2 M
    unfold wX5_topWaysAgree_L7
    refine ts_iload_n C dX5_topWaysAgree_7 rfl 2 rfl ?_
    refine ts_aload_n C dX5_topWaysAgree_8 rfl 0 rfl ?_
    refine tgX5_2 C q_355 dX5_topWaysAgree_9 ?_
    refine ts_cmp_ge C rfl rfl 36 dX5_topWaysAgree_12 rfl ?_ ?_
    · refine ts_iconst C dX5_topWaysAgree_36 1 rfl ?_
      exact ts_zretci C (by decide) (Nat.zero_le _) (Nat.zero_le _) dX5_topWaysAgree_37
    · refine ts_aload_n C dX5_topWaysAgree_15 rfl 0 rfl ?_
      refine ts_iload_n C dX5_topWaysAgree_16 rfl 2 rfl ?_
      refine ts_callVi C [ts_v y2] (mX5_leadsToAll hl) kX5_leadsToAll q_624 (by decide) shX5 rfl rfl rfl (Nat.le_of_ble_eq_true rfl) ⟨Nat.le_of_ble_eq_true rfl, Nat.le_of_ble_eq_true rfl⟩ ⟨Nat.le_of_ble_eq_true rfl, Nat.le_of_ble_eq_true rfl⟩ dX5_topWaysAgree_17 (fun r6 M5 => ?_)
      refine ts_iload_n C dX5_topWaysAgree_20 rfl 2 rfl ?_
      refine ts_iload_n C dX5_topWaysAgree_21 rfl 1 rfl ?_
      refine ts_callSi C [ts_v y2, ts_v y1] (mX5_isIn hl) kX5_isIn q_506 rfl rfl (Nat.le_of_ble_eq_true rfl) ⟨Nat.le_of_ble_eq_true rfl, Nat.le_of_ble_eq_true rfl⟩ ⟨Nat.le_of_ble_eq_true rfl, Nat.le_of_ble_eq_true rfl⟩ dX5_topWaysAgree_22 (fun r8 M7 => ?_)
      refine ts_cmp_eq C rfl rfl 30 dX5_topWaysAgree_25 rfl ?_ ?_
      · refine ts_iinc C dX5_topWaysAgree_30 2 rfl (by decide) (lv' := fun x9 => [(2, ts_v x9), (0, .ref (ts_ad g 155)), (1, ts_v y1)]) (fun _ => rfl) (fun x9 => ?_)
        refine ts_goto C 7 dX5_topWaysAgree_33 rfl ?_
        exact ts_sub [1, 2, 0] rfl (hk7 _ _ _)
      · refine ts_iconst C dX5_topWaysAgree_28 0 rfl ?_
        exact ts_zretci C (by decide) (Nat.zero_le _) (Nat.zero_le _) dX5_topWaysAgree_29
  revert h0
  unfold wX5_topWaysAgree
  have hl0 : lv_args 0 [.ref (ts_ad g 155)] = [(0, .ref (ts_ad g 155))] := rfl
  rw [hl0]
  refine ts_aload_n C dX5_topWaysAgree_0 rfl 0 rfl ?_
  refine ts_callVi C [] (mX5_smallestTop hl) kX5_smallestTop q_606 (by decide) shX5 rfl rfl rfl (Nat.le_of_ble_eq_true rfl) ⟨Nat.le_of_ble_eq_true rfl, Nat.le_of_ble_eq_true rfl⟩ ⟨Nat.le_of_ble_eq_true rfl, Nat.le_of_ble_eq_true rfl⟩ dX5_topWaysAgree_1 (fun r2 M1 => ?_)
  refine ts_istore_n C dX5_topWaysAgree_4 rfl (by decide) (lv' := fun x3 => [(1, ts_v x3), (0, .ref (ts_ad g 155))]) (fun _ => rfl) (fun x3 => ?_)
  refine ts_iconst C dX5_topWaysAgree_5 0 rfl ?_
  refine ts_istore_n C dX5_topWaysAgree_6 rfl (by decide) (lv' := fun x4 => [(2, ts_v x4), (1, ts_v x3), (0, .ref (ts_ad g 155))]) (fun _ => rfl) (fun x4 => ?_)
  rintro ⟨n, hn⟩
  exact ts_sub [2, 1, 0] rfl (H7 n _ _ _) hn
def wX8_copyFrom (b : Nat) (b2 : Nat) (Q : ts_M → Prop) (M : ts_M) : Prop :=
  (wX11_copyRow (b2 + 2) 8 (b + 2) 8 (fun M1 => (wX11_copyRow (b2 + 3) 8 (b + 3) 8 (fun M2 => (wX11_copyRow (b2 + 4) 8 (b + 4) 8 (fun M3 => (wX11_copyRow (b2 + 5) 8 (b + 5) 8 (fun M4 => (∀ M5, M5 = ts_si M4 (b + 1) 4 (M4.1 (b2 + 1) 4) → (∀ M6, M6 = ts_si M5 (b + 1) 5 (M5.1 (b2 + 1) 5) → (∀ M7, M7 = ts_si M6 (b + 1) 6 (M6.1 (b2 + 1) 6) → (∀ M8, M8 = ts_si M7 (b + 1) 7 (M7.1 (b2 + 1) 7) → Q M8))))) M3)) M2)) M1)) M)
set_option maxRecDepth 100000 in
set_option maxHeartbeats 4000000 in
theorem mX8_copyFrom {l : Launch} {g : ts_W} (hl : l.stackTraces = false) {b : Nat} {b2 : Nat} (hb : ts_isS b) (hb2 : ts_isS b2) {Q : ts_M → Prop} {M : ts_M} : wX8_copyFrom b b2 Q M → ts_Con l g yX8_copyFrom cX8_copyFrom 2 none 3 0 0 [.ref (ts_ad g (b + 1)), .ref (ts_ad g (b2 + 1))] M (ts_Rv Q) := by
  intro h0
  refine ts_Con.of hl (by decide) (Nat.le_of_ble_eq_true rfl) ?_
  intro p e s m args below meth c C
  revert h0
  unfold wX8_copyFrom
  have hl0 : lv_args 0 [.ref (ts_ad g (b + 1)), .ref (ts_ad g (b2 + 1))] = [(0, .ref (ts_ad g (b + 1))), (1, .ref (ts_ad g (b2 + 1)))] := rfl
  rw [hl0]
  refine ts_aload_n C dX8_copyFrom_0 rfl 1 rfl ?_
  refine tgX8_0 hb2 C q_178 dX8_copyFrom_1 ?_
  refine ts_aload_n C dX8_copyFrom_4 rfl 0 rfl ?_
  refine tgX8_0 hb C q_178 dX8_copyFrom_5 ?_
  refine ts_callSNv (host := "TeaspoonSalon") C [.ref (ts_ad g (b2 + 2)), .ref (ts_ad g (b + 2))] (mX11_copyRow hl (ts_lt hb2 2 (by decide)) (shS2 hb2) (ts_lt hb 2 (by decide)) (shS2 hb)) kX11_copyRow qn_9 rfl rfl (Nat.le_of_ble_eq_true rfl) ⟨Nat.le_of_ble_eq_true rfl, Nat.le_of_ble_eq_true rfl⟩ ⟨Nat.le_of_ble_eq_true rfl, Nat.le_of_ble_eq_true rfl⟩ dX8_copyFrom_8 (fun M1 => ?_)
  refine ts_aload_n C dX8_copyFrom_11 rfl 1 rfl ?_
  refine tgX8_1 hb2 C q_181 dX8_copyFrom_12 ?_
  refine ts_aload_n C dX8_copyFrom_15 rfl 0 rfl ?_
  refine tgX8_1 hb C q_181 dX8_copyFrom_16 ?_
  refine ts_callSNv (host := "TeaspoonSalon") C [.ref (ts_ad g (b2 + 3)), .ref (ts_ad g (b + 3))] (mX11_copyRow hl (ts_lt hb2 3 (by decide)) (shS3 hb2) (ts_lt hb 3 (by decide)) (shS3 hb)) kX11_copyRow qn_9 rfl rfl (Nat.le_of_ble_eq_true rfl) ⟨Nat.le_of_ble_eq_true rfl, Nat.le_of_ble_eq_true rfl⟩ ⟨Nat.le_of_ble_eq_true rfl, Nat.le_of_ble_eq_true rfl⟩ dX8_copyFrom_19 (fun M2 => ?_)
  refine ts_aload_n C dX8_copyFrom_22 rfl 1 rfl ?_
  refine tgX8_2 hb2 C q_184 dX8_copyFrom_23 ?_
  refine ts_aload_n C dX8_copyFrom_26 rfl 0 rfl ?_
  refine tgX8_2 hb C q_184 dX8_copyFrom_27 ?_
  refine ts_callSNv (host := "TeaspoonSalon") C [.ref (ts_ad g (b2 + 4)), .ref (ts_ad g (b + 4))] (mX11_copyRow hl (ts_lt hb2 4 (by decide)) (shS4 hb2) (ts_lt hb 4 (by decide)) (shS4 hb)) kX11_copyRow qn_9 rfl rfl (Nat.le_of_ble_eq_true rfl) ⟨Nat.le_of_ble_eq_true rfl, Nat.le_of_ble_eq_true rfl⟩ ⟨Nat.le_of_ble_eq_true rfl, Nat.le_of_ble_eq_true rfl⟩ dX8_copyFrom_30 (fun M3 => ?_)
  refine ts_aload_n C dX8_copyFrom_33 rfl 1 rfl ?_
  refine tgX8_3 hb2 C q_187 dX8_copyFrom_34 ?_
  refine ts_aload_n C dX8_copyFrom_37 rfl 0 rfl ?_
  refine tgX8_3 hb C q_187 dX8_copyFrom_38 ?_
  refine ts_callSNv (host := "TeaspoonSalon") C [.ref (ts_ad g (b2 + 5)), .ref (ts_ad g (b + 5))] (mX11_copyRow hl (ts_lt hb2 5 (by decide)) (shS5 hb2) (ts_lt hb 5 (by decide)) (shS5 hb)) kX11_copyRow qn_9 rfl rfl (Nat.le_of_ble_eq_true rfl) ⟨Nat.le_of_ble_eq_true rfl, Nat.le_of_ble_eq_true rfl⟩ ⟨Nat.le_of_ble_eq_true rfl, Nat.le_of_ble_eq_true rfl⟩ dX8_copyFrom_41 (fun M4 => ?_)
  refine ts_aload_n C dX8_copyFrom_44 rfl 0 rfl ?_
  refine ts_aload_n C dX8_copyFrom_45 rfl 1 rfl ?_
  refine tgX8_4 hb2 C q_190 dX8_copyFrom_46 ?_
  refine tpX8_4 hb C q_190 dX8_copyFrom_49 (fun M5 => ?_)
  refine ts_aload_n C dX8_copyFrom_52 rfl 0 rfl ?_
  refine ts_aload_n C dX8_copyFrom_53 rfl 1 rfl ?_
  refine tgX8_5 hb2 C q_193 dX8_copyFrom_54 ?_
  refine tpX8_5 hb C q_193 dX8_copyFrom_57 (fun M6 => ?_)
  refine ts_aload_n C dX8_copyFrom_60 rfl 0 rfl ?_
  refine ts_aload_n C dX8_copyFrom_61 rfl 1 rfl ?_
  refine tgX8_6 hb2 C q_194 dX8_copyFrom_62 ?_
  refine tpX8_6 hb C q_194 dX8_copyFrom_65 (fun M7 => ?_)
  refine ts_aload_n C dX8_copyFrom_68 rfl 0 rfl ?_
  refine ts_aload_n C dX8_copyFrom_69 rfl 1 rfl ?_
  refine tgX8_7 hb2 C q_195 dX8_copyFrom_70 ?_
  refine tpX8_7 hb C q_195 dX8_copyFrom_73 (fun M8 => ?_)
  exact ts_vreti C (Nat.zero_le _) (Nat.zero_le _) dX8_copyFrom_76
def wX9_refusalOfMotion_B20 (b : Nat)  (Q : Int → ts_M → Prop)  (z0 : Int) (M : ts_M) : Prop :=
  Q z0 M
def wX9_refusalOfMotion (b : Nat) (p1 : Int) (Q : Int → ts_M → Prop) (M : ts_M) : Prop :=
  (wX10_admits b p1 (fun r2 M1 => ((ts_w r2 = 0 → wX9_refusalOfMotion_B20 b Q 5 M1) ∧ (¬ (ts_w r2 = 0) → wX9_refusalOfMotion_B20 b Q 0 M1))) M)
set_option maxRecDepth 100000 in
set_option maxHeartbeats 4000000 in
theorem mX9_refusalOfMotion {l : Launch} {g : ts_W} (hl : l.stackTraces = false) {b : Nat} (hb : ts_isS b) {p1 : Int} {Q : Int → ts_M → Prop} {M : ts_M} : wX9_refusalOfMotion b p1 Q M → ts_Con l g yX9_refusalOfMotion cX9_refusalOfMotion 2 (some (.object "TeaspoonSalon$Refusal")) 3 0 0 [.ref (ts_ad g b), ts_v p1] M (ts_Rr g Q) := by
  intro h0
  refine ts_Con.of hl (by decide) (Nat.le_of_ble_eq_true rfl) ?_
  intro p e s m args below meth c C
  have H20 : ∀ (z0 : Int) (M : ts_M), wX9_refusalOfMotion_B20 b  Q z0 M → ts_V p l e (ts_rm 3 0 0) s m args below meth c g 2 0 0 (MQ below (ts_Q g (ts_Rr g Q)) args s 0 0 (ts_A g)) 20 [] [ts_rv g z0] M := by
    intro  z0 M
    unfold wX9_refusalOfMotion_B20
    exact ts_rreti C (Nat.zero_le _) (Nat.zero_le _) dX9_refusalOfMotion_20
  revert h0
  unfold wX9_refusalOfMotion
  have hl0 : lv_args 0 [.ref (ts_ad g b), ts_v p1] = [(0, .ref (ts_ad g b)), (1, ts_v p1)] := rfl
  rw [hl0]
  refine ts_aload_n C dX9_refusalOfMotion_0 rfl 0 rfl ?_
  refine tgX9_2 hb C q_295 dX9_refusalOfMotion_1 ?_
  refine ts_iload_n C dX9_refusalOfMotion_4 rfl 1 rfl ?_
  refine ts_callVi C [ts_v p1] (mX10_admits hl hb) kX10_admits q_1138 (ts_lt hb 9 (by decide)) (shX10 hb) rfl rfl rfl (Nat.le_of_ble_eq_true rfl) ⟨Nat.le_of_ble_eq_true rfl, Nat.le_of_ble_eq_true rfl⟩ ⟨Nat.le_of_ble_eq_true rfl, Nat.le_of_ble_eq_true rfl⟩ dX9_refusalOfMotion_5 (fun r2 M1 => ?_)
  refine ts_cm0_eq C rfl 17 dX9_refusalOfMotion_8 rfl ?_ ?_
  · refine ts_getR C 5 (by decide) q_1146 dX9_refusalOfMotion_17 ?_
    exact ts_sub [] rfl (H20 _ _)
  · refine ts_getR C 0 (by decide) q_1122 dX9_refusalOfMotion_11 ?_
    refine ts_goto C 20 dX9_refusalOfMotion_14 rfl ?_
    exact ts_sub [] rfl (H20 _ _)
def wX10_copyFrom (b : Nat) (b2 : Nat) (Q : ts_M → Prop) (M : ts_M) : Prop :=
  (wX11_copyRow (b2 + 10) 5 (b + 10) 5 (fun M1 => (∀ M2, M2 = ts_si M1 (b + 9) 1 (M1.1 (b2 + 9) 1) → (∀ M3, M3 = ts_si M2 (b + 9) 2 (M2.1 (b2 + 9) 2) → (∀ M4, M4 = ts_si M3 (b + 9) 3 (M3.1 (b2 + 9) 3) → ((ts_w (M4.1 (b2 + 9) 4) = 0 ∨ ts_w (M4.1 (b2 + 9) 4) = 1) ∧ ∀ M5, M5 = ts_si M4 (b + 9) 4 (M4.1 (b2 + 9) 4) → Q M5))))) M)
set_option maxRecDepth 100000 in
set_option maxHeartbeats 4000000 in
theorem mX10_copyFrom {l : Launch} {g : ts_W} (hl : l.stackTraces = false) {b : Nat} {b2 : Nat} (hb : ts_isS b) (hb2 : ts_isS b2) {Q : ts_M → Prop} {M : ts_M} : wX10_copyFrom b b2 Q M → ts_Con l g yX10_copyFrom cX10_copyFrom 2 none 3 0 0 [.ref (ts_ad g (b + 9)), .ref (ts_ad g (b2 + 9))] M (ts_Rv Q) := by
  intro h0
  refine ts_Con.of hl (by decide) (Nat.le_of_ble_eq_true rfl) ?_
  intro p e s m args below meth c C
  revert h0
  unfold wX10_copyFrom
  have hl0 : lv_args 0 [.ref (ts_ad g (b + 9)), .ref (ts_ad g (b2 + 9))] = [(0, .ref (ts_ad g (b + 9))), (1, .ref (ts_ad g (b2 + 9)))] := rfl
  rw [hl0]
  refine ts_aload_n C dX10_copyFrom_0 rfl 1 rfl ?_
  refine tgX10_0 hb2 C q_246 dX10_copyFrom_1 ?_
  refine ts_aload_n C dX10_copyFrom_4 rfl 0 rfl ?_
  refine tgX10_0 hb C q_246 dX10_copyFrom_5 ?_
  refine ts_callSNv (host := "TeaspoonSalon") C [.ref (ts_ad g (b2 + 10)), .ref (ts_ad g (b + 10))] (mX11_copyRow hl (ts_lt hb2 10 (by decide)) (shS10 hb2) (ts_lt hb 10 (by decide)) (shS10 hb)) kX11_copyRow qn_11 rfl rfl (Nat.le_of_ble_eq_true rfl) ⟨Nat.le_of_ble_eq_true rfl, Nat.le_of_ble_eq_true rfl⟩ ⟨Nat.le_of_ble_eq_true rfl, Nat.le_of_ble_eq_true rfl⟩ dX10_copyFrom_8 (fun M1 => ?_)
  refine ts_aload_n C dX10_copyFrom_11 rfl 0 rfl ?_
  refine ts_aload_n C dX10_copyFrom_12 rfl 1 rfl ?_
  refine tgX10_1 hb2 C q_247 dX10_copyFrom_13 ?_
  refine tpX10_1 hb C q_247 dX10_copyFrom_16 (fun M2 => ?_)
  refine ts_aload_n C dX10_copyFrom_19 rfl 0 rfl ?_
  refine ts_aload_n C dX10_copyFrom_20 rfl 1 rfl ?_
  refine tgX10_2 hb2 C q_250 dX10_copyFrom_21 ?_
  refine tpX10_2 hb C q_250 dX10_copyFrom_24 (fun M3 => ?_)
  refine ts_aload_n C dX10_copyFrom_27 rfl 0 rfl ?_
  refine ts_aload_n C dX10_copyFrom_28 rfl 1 rfl ?_
  refine tgX10_3 hb2 C q_253 dX10_copyFrom_29 ?_
  refine tpX10_3 hb C q_253 dX10_copyFrom_32 (fun M4 => ?_)
  refine ts_aload_n C dX10_copyFrom_35 rfl 0 rfl ?_
  refine ts_aload_n C dX10_copyFrom_36 rfl 1 rfl ?_
  refine tgX10_4 hb2 C q_256 dX10_copyFrom_37 ?_
  refine tpX10_4 hb C q_256 dX10_copyFrom_40 (fun M5 => ?_)
  exact ts_vreti C (Nat.zero_le _) (Nat.zero_le _) dX10_copyFrom_43
def wJ0_length_8abf5 (q : Nat) (Q : Int → ts_M → Prop) (M : ts_M) : Prop :=
  (wJ0_coder_7d493 q (fun r2 M1 => Q (ts_shr (ts_ln q) r2) M1) M)
set_option maxRecDepth 100000 in
set_option maxHeartbeats 4000000 in
theorem mJ0_length_8abf5 {l : Launch} {g : ts_W} (hl : l.stackTraces = false) {q : Nat} (hq : q < 13) {Q : Int → ts_M → Prop} {M : ts_M} : wJ0_length_8abf5 q Q M → ts_Con l g yJ0_length_8abf5 cJ0_length_8abf5 1 (some .int) 1 0 0 [ts_kv g q] M (ts_Ri Q) := by
  intro h0
  refine ts_Con.of hl (by decide) (Nat.le_of_ble_eq_true rfl) ?_
  intro p e s m args below meth c C
  revert h0
  unfold wJ0_length_8abf5
  have hl0 : lv_args 0 [ts_kv g q] = [(0, ts_kv g q)] := rfl
  rw [hl0]
  refine ts_aload_n C dJ0_length_8abf5_0 rfl 0 rfl ?_
  refine ts_getSv C hq q_941 dJ0_length_8abf5_1 ?_
  refine ts_clen C hq dJ0_length_8abf5_4 ?_
  refine ts_aload_n C dJ0_length_8abf5_5 rfl 0 rfl ?_
  refine ts_callRi C [] (mJ0_coder_7d493 hl hq) kJ0_coder_7d493 q_751 (ts_recS C hq) rfl rfl (Nat.le_of_ble_eq_true rfl) ⟨Nat.le_of_ble_eq_true rfl, Nat.le_of_ble_eq_true rfl⟩ ⟨Nat.le_of_ble_eq_true rfl, Nat.le_of_ble_eq_true rfl⟩ dJ0_length_8abf5_6 (fun r2 M1 => ?_)
  refine ts_ishr C dJ0_length_8abf5_9 ?_
  exact ts_ireti C (Nat.zero_le _) (Nat.zero_le _) dJ0_length_8abf5_10
def wJ0_checkIndex_df160 (p1 : Int) (p2 : Int) (Q : ts_M → Prop) (M : ts_M) : Prop :=
  (wJ3_checkIndex_8e157 p1 p2 (fun r3 M2 => Q M2) M)
set_option maxRecDepth 100000 in
set_option maxHeartbeats 4000000 in
theorem mJ0_checkIndex_df160 {l : Launch} {g : ts_W} (hl : l.stackTraces = false) {p1 : Int} {p2 : Int} {Q : ts_M → Prop} {M : ts_M} : wJ0_checkIndex_df160 p1 p2 Q M → ts_Con l g yJ0_checkIndex_df160 cJ0_checkIndex_df160 2 none 1 0 0 [ts_v p1, ts_v p2] M (ts_Rv Q) := by
  intro h0
  refine ts_Con.of hl (by decide) (Nat.le_of_ble_eq_true rfl) ?_
  intro p e s m args below meth c C
  revert h0
  unfold wJ0_checkIndex_df160
  have hl0 : lv_args 0 [ts_v p1, ts_v p2] = [(0, ts_v p1), (1, ts_v p2)] := rfl
  rw [hl0]
  refine ts_iload_n C dJ0_checkIndex_df160_0 rfl 0 rfl ?_
  refine ts_iload_n C dJ0_checkIndex_df160_1 rfl 1 rfl ?_
  refine ts_getSIO C q_733 dJ0_checkIndex_df160_2 (fun o1 => ?_)
  refine ts_callSi C [ts_v p1, ts_v p2, va_rf o1] (mJ3_checkIndex_8e157 hl) kJ3_checkIndex_8e157 q_1028 rfl rfl (Nat.le_of_ble_eq_true rfl) ⟨Nat.le_of_ble_eq_true rfl, Nat.le_of_ble_eq_true rfl⟩ ⟨Nat.le_of_ble_eq_true rfl, Nat.le_of_ble_eq_true rfl⟩ dJ0_checkIndex_df160_5 (fun r3 M2 => ?_)
  refine ts_pop C dJ0_checkIndex_df160_8 rfl ?_
  exact ts_vreti C (Nat.zero_le _) (Nat.zero_le _) dJ0_checkIndex_df160_9
def wJ1_charAt_3b067 (q : Nat) (p2 : Int) (Q : Int → ts_M → Prop) (M : ts_M) : Prop :=
  (wJ0_checkIndex_df160 p2 (ts_ln q) (fun M1 => ((0 ≤ ts_w p2 ∧ ts_w p2 < ts_ln q) ∧ ((0 ≤ ts_w (ts_i2c (ts_and (ts_bt q (ts_w p2)) 255)) ∧ ts_w (ts_i2c (ts_and (ts_bt q (ts_w p2)) 255)) < 65536) ∧ Q (ts_i2c (ts_and (ts_bt q (ts_w p2)) 255)) M1))) M)
set_option maxRecDepth 100000 in
set_option maxHeartbeats 4000000 in
theorem mJ1_charAt_3b067 {l : Launch} {g : ts_W} (hl : l.stackTraces = false) {q : Nat} (hq : q < 13) {p2 : Int} {Q : Int → ts_M → Prop} {M : ts_M} : wJ1_charAt_3b067 q p2 Q M → ts_Con l g yJ1_charAt_3b067 cJ1_charAt_3b067 2 (some .char) 2 0 0 [ts_bv g q, ts_v p2] M (ts_Ri Q) := by
  intro h0
  refine ts_Con.of hl (by decide) (Nat.le_of_ble_eq_true rfl) ?_
  intro p e s m args below meth c C
  revert h0
  unfold wJ1_charAt_3b067
  have hl0 : lv_args 0 [ts_bv g q, ts_v p2] = [(0, ts_bv g q), (1, ts_v p2)] := rfl
  rw [hl0]
  refine ts_iload_n C dJ1_charAt_3b067_0 rfl 1 rfl ?_
  refine ts_aload_n C dJ1_charAt_3b067_1 rfl 0 rfl ?_
  refine ts_clen C hq dJ1_charAt_3b067_2 ?_
  refine ts_callSv C [ts_v p2, ts_v (ts_ln q)] (mJ0_checkIndex_df160 hl) kJ0_checkIndex_df160 q_1025 rfl rfl (Nat.le_of_ble_eq_true rfl) ⟨Nat.le_of_ble_eq_true rfl, Nat.le_of_ble_eq_true rfl⟩ ⟨Nat.le_of_ble_eq_true rfl, Nat.le_of_ble_eq_true rfl⟩ dJ1_charAt_3b067_3 (fun M1 => ?_)
  refine ts_aload_n C dJ1_charAt_3b067_6 rfl 0 rfl ?_
  refine ts_iload_n C dJ1_charAt_3b067_7 rfl 1 rfl ?_
  refine ts_cbald C hq dJ1_charAt_3b067_8 ?_
  refine ts_sipush C dJ1_charAt_3b067_9 255 tsp_255 ?_
  refine ts_iand C dJ1_charAt_3b067_12 ?_
  refine ts_i2c0 C dJ1_charAt_3b067_13 ?_
  exact ts_creti C (Nat.zero_le _) (Nat.zero_le _) dJ1_charAt_3b067_14
def wJ1_indexOf_4cfef (q : Nat) (p2 : Int) (p3 : Int) (p4 : Int) (Q : Int → ts_M → Prop) (M : ts_M) : Prop :=
  (wJ1_canEncode_9a6ad p2 (fun r2 M1 => ((¬ (ts_w r2 = 0) → (wJ9_max_7cf53 p3 0 (fun r4 M3 => (∀ x5 : Int, x5 = r4 → (wJ9_min_7cf53 p4 (ts_ln q) (fun r7 M6 => (∀ x8 : Int, x8 = r7 → ((ts_w x5 < ts_w x8 → (wJ1_indexOfChar_4cfef q p2 x5 x8 (fun r10 M9 => Q r10 M9) M6)) ∧ (¬ (ts_w x5 < ts_w x8) → Q (-1) M6)))) M3))) M1)) ∧ (ts_w r2 = 0 → Q (-1) M1))) M)
set_option maxRecDepth 100000 in
set_option maxHeartbeats 4000000 in
theorem mJ1_indexOf_4cfef {l : Launch} {g : ts_W} (hl : l.stackTraces = false) {q : Nat} (hq : q < 13) {p2 : Int} {p3 : Int} {p4 : Int} {Q : Int → ts_M → Prop} {M : ts_M} : wJ1_indexOf_4cfef q p2 p3 p4 Q M → ts_Con l g yJ1_indexOf_4cfef cJ1_indexOf_4cfef 4 (some .int) 1 0 0 [ts_bv g q, ts_v p2, ts_v p3, ts_v p4] M (ts_Ri Q) := by
  intro h0
  refine ts_Con.of hl (by decide) (Nat.le_of_ble_eq_true rfl) ?_
  intro p e s m args below meth c C
  revert h0
  unfold wJ1_indexOf_4cfef
  have hl0 : lv_args 0 [ts_bv g q, ts_v p2, ts_v p3, ts_v p4] = [(0, ts_bv g q), (1, ts_v p2), (2, ts_v p3), (3, ts_v p4)] := rfl
  rw [hl0]
  refine ts_iload_n C dJ1_indexOf_4cfef_0 rfl 1 rfl ?_
  refine ts_callSi C [ts_v p2] (mJ1_canEncode_9a6ad hl) kJ1_canEncode_9a6ad q_1606 rfl rfl (Nat.le_of_ble_eq_true rfl) ⟨Nat.le_of_ble_eq_true rfl, Nat.le_of_ble_eq_true rfl⟩ ⟨Nat.le_of_ble_eq_true rfl, Nat.le_of_ble_eq_true rfl⟩ dJ1_indexOf_4cfef_1 (fun r2 M1 => ?_)
  refine ts_cm0_ne C rfl 9 dJ1_indexOf_4cfef_4 rfl ?_ ?_
  · refine ts_iload_n C dJ1_indexOf_4cfef_9 rfl 2 rfl ?_
    refine ts_iconst C dJ1_indexOf_4cfef_10 0 rfl ?_
    refine ts_callSi C [ts_v p3, ts_v 0] (mJ9_max_7cf53 hl) kJ9_max_7cf53 q_1609 rfl rfl (Nat.le_of_ble_eq_true rfl) ⟨Nat.le_of_ble_eq_true rfl, Nat.le_of_ble_eq_true rfl⟩ ⟨Nat.le_of_ble_eq_true rfl, Nat.le_of_ble_eq_true rfl⟩ dJ1_indexOf_4cfef_11 (fun r4 M3 => ?_)
    refine ts_istore_n C dJ1_indexOf_4cfef_14 rfl (by decide) (lv' := fun x5 => [(2, ts_v x5), (0, ts_bv g q), (1, ts_v p2), (3, ts_v p4)]) (fun _ => rfl) (fun x5 => ?_)
    refine ts_iload_n C dJ1_indexOf_4cfef_15 rfl 3 rfl ?_
    refine ts_aload_n C dJ1_indexOf_4cfef_16 rfl 1 rfl ?_
    refine ts_clen C hq dJ1_indexOf_4cfef_17 ?_
    refine ts_callSi C [ts_v p4, ts_v (ts_ln q)] (mJ9_min_7cf53 hl) kJ9_min_7cf53 q_1610 rfl rfl (Nat.le_of_ble_eq_true rfl) ⟨Nat.le_of_ble_eq_true rfl, Nat.le_of_ble_eq_true rfl⟩ ⟨Nat.le_of_ble_eq_true rfl, Nat.le_of_ble_eq_true rfl⟩ dJ1_indexOf_4cfef_18 (fun r7 M6 => ?_)
    refine ts_istore_n C dJ1_indexOf_4cfef_21 rfl (by decide) (lv' := fun x8 => [(3, ts_v x8), (2, ts_v x5), (0, ts_bv g q), (1, ts_v p2)]) (fun _ => rfl) (fun x8 => ?_)
    refine ts_iload_n C dJ1_indexOf_4cfef_22 rfl 1 rfl ?_
    refine ts_iload_n C dJ1_indexOf_4cfef_23 rfl 0 rfl ?_
    refine ts_cmp_lt C rfl rfl 29 dJ1_indexOf_4cfef_24 rfl ?_ ?_
    · refine ts_aload_n C dJ1_indexOf_4cfef_29 rfl 2 rfl ?_
      refine ts_iload_n C dJ1_indexOf_4cfef_30 rfl 3 rfl ?_
      refine ts_iload_n C dJ1_indexOf_4cfef_31 rfl 1 rfl ?_
      refine ts_iload_n C dJ1_indexOf_4cfef_32 rfl 0 rfl ?_
      refine ts_callSi C [ts_bv g q, ts_v p2, ts_v x5, ts_v x8] (mJ1_indexOfChar_4cfef hl hq) kJ1_indexOfChar_4cfef q_1611 rfl rfl (Nat.le_of_ble_eq_true rfl) ⟨Nat.le_of_ble_eq_true rfl, Nat.le_of_ble_eq_true rfl⟩ ⟨Nat.le_of_ble_eq_true rfl, Nat.le_of_ble_eq_true rfl⟩ dJ1_indexOf_4cfef_33 (fun r10 M9 => ?_)
      exact ts_ireti C (Nat.zero_le _) (Nat.zero_le _) dJ1_indexOf_4cfef_36
    · refine ts_iconst C dJ1_indexOf_4cfef_27 (-1) rfl ?_
      exact ts_ireti C (Nat.zero_le _) (Nat.zero_le _) dJ1_indexOf_4cfef_28
  · refine ts_iconst C dJ1_indexOf_4cfef_7 (-1) rfl ?_
    exact ts_ireti C (Nat.zero_le _) (Nat.zero_le _) dJ1_indexOf_4cfef_8
def wX9_copyFrom (b : Nat) (b2 : Nat) (Q : ts_M → Prop) (M : ts_M) : Prop :=
  (wX8_copyFrom b b2 (fun M1 => (wX4_copyFrom b b2 (fun M2 => (wX10_copyFrom b b2 (fun M3 => (∀ M4, M4 = ts_sl M3 (b + 11) 0 (M3.2.1 (b2 + 11) 0) → (wX11_copyRow (b2 + 13) 20 (b + 13) 20 (fun M5 => (∀ M6, M6 = ts_si M5 b 5 (M5.1 b2 5) → (∀ M7, M7 = ts_si M6 b 6 (M6.1 b2 6) → (∀ M8, M8 = ts_si M7 b 7 (M7.1 b2 7) → (∀ M9, M9 = ts_si M8 b 8 (M8.1 b2 8) → Q M9))))) M4))) M2)) M1)) M)
set_option maxRecDepth 100000 in
set_option maxHeartbeats 4000000 in
theorem mX9_copyFrom {l : Launch} {g : ts_W} (hl : l.stackTraces = false) {b : Nat} {b2 : Nat} (hb : ts_isS b) (hb2 : ts_isS b2) {Q : ts_M → Prop} {M : ts_M} : wX9_copyFrom b b2 Q M → ts_Con l g yX9_copyFrom cX9_copyFrom 2 none 4 0 0 [.ref (ts_ad g b), .ref (ts_ad g b2)] M (ts_Rv Q) := by
  intro h0
  refine ts_Con.of hl (by decide) (Nat.le_of_ble_eq_true rfl) ?_
  intro p e s m args below meth c C
  revert h0
  unfold wX9_copyFrom
  have hl0 : lv_args 0 [.ref (ts_ad g b), .ref (ts_ad g b2)] = [(0, .ref (ts_ad g b)), (1, .ref (ts_ad g b2))] := rfl
  rw [hl0]
  refine ts_aload_n C dX9_copyFrom_0 rfl 0 rfl ?_
  refine tgX9_0 hb C q_289 dX9_copyFrom_1 ?_
  refine ts_aload_n C dX9_copyFrom_4 rfl 1 rfl ?_
  refine tgX9_0 hb2 C q_289 dX9_copyFrom_5 ?_
  refine ts_callVv C [.ref (ts_ad g (b2 + 1))] (mX8_copyFrom hl hb hb2) kX8_copyFrom q_1066 (ts_lt hb 1 (by decide)) (shX8 hb) rfl rfl rfl (Nat.le_of_ble_eq_true rfl) ⟨Nat.le_of_ble_eq_true rfl, Nat.le_of_ble_eq_true rfl⟩ ⟨Nat.le_of_ble_eq_true rfl, Nat.le_of_ble_eq_true rfl⟩ dX9_copyFrom_8 (fun M1 => ?_)
  refine ts_aload_n C dX9_copyFrom_11 rfl 0 rfl ?_
  refine tgX9_1 hb C q_292 dX9_copyFrom_12 ?_
  refine ts_aload_n C dX9_copyFrom_15 rfl 1 rfl ?_
  refine tgX9_1 hb2 C q_292 dX9_copyFrom_16 ?_
  refine ts_callVv C [.ref (ts_ad g (b2 + 6))] (mX4_copyFrom hl hb hb2) kX4_copyFrom q_1075 (ts_lt hb 6 (by decide)) (shX4 hb) rfl rfl rfl (Nat.le_of_ble_eq_true rfl) ⟨Nat.le_of_ble_eq_true rfl, Nat.le_of_ble_eq_true rfl⟩ ⟨Nat.le_of_ble_eq_true rfl, Nat.le_of_ble_eq_true rfl⟩ dX9_copyFrom_19 (fun M2 => ?_)
  refine ts_aload_n C dX9_copyFrom_22 rfl 0 rfl ?_
  refine tgX9_2 hb C q_295 dX9_copyFrom_23 ?_
  refine ts_aload_n C dX9_copyFrom_26 rfl 1 rfl ?_
  refine tgX9_2 hb2 C q_295 dX9_copyFrom_27 ?_
  refine ts_callVv C [.ref (ts_ad g (b2 + 9))] (mX10_copyFrom hl hb hb2) kX10_copyFrom q_1080 (ts_lt hb 9 (by decide)) (shX10 hb) rfl rfl rfl (Nat.le_of_ble_eq_true rfl) ⟨Nat.le_of_ble_eq_true rfl, Nat.le_of_ble_eq_true rfl⟩ ⟨Nat.le_of_ble_eq_true rfl, Nat.le_of_ble_eq_true rfl⟩ dX9_copyFrom_30 (fun M3 => ?_)
  refine ts_aload_n C dX9_copyFrom_33 rfl 0 rfl ?_
  refine tgX9_3 hb C q_297 dX9_copyFrom_34 ?_
  refine ts_aload_n C dX9_copyFrom_37 rfl 1 rfl ?_
  refine tgX9_3 hb2 C q_297 dX9_copyFrom_38 ?_
  refine tgX1_0 hb2 C q_276 dX9_copyFrom_41 ?_
  refine tpX1_0 hb C q_276 dX9_copyFrom_44 (fun M4 => ?_)
  refine ts_aload_n C dX9_copyFrom_47 rfl 1 rfl ?_
  refine tgX9_4 hb2 C q_299 dX9_copyFrom_48 ?_
  refine ts_aload_n C dX9_copyFrom_51 rfl 0 rfl ?_
  refine tgX9_4 hb C q_299 dX9_copyFrom_52 ?_
  refine ts_callSNv (host := "TeaspoonSalon") C [.ref (ts_ad g (b2 + 13)), .ref (ts_ad g (b + 13))] (mX11_copyRow hl (ts_lt hb2 13 (by decide)) (shS13 hb2) (ts_lt hb 13 (by decide)) (shS13 hb)) kX11_copyRow qn_12 rfl rfl (Nat.le_of_ble_eq_true rfl) ⟨Nat.le_of_ble_eq_true rfl, Nat.le_of_ble_eq_true rfl⟩ ⟨Nat.le_of_ble_eq_true rfl, Nat.le_of_ble_eq_true rfl⟩ dX9_copyFrom_55 (fun M5 => ?_)
  refine ts_aload_n C dX9_copyFrom_58 rfl 0 rfl ?_
  refine ts_aload_n C dX9_copyFrom_59 rfl 1 rfl ?_
  refine tgX9_5 hb2 C q_300 dX9_copyFrom_60 ?_
  refine tpX9_5 hb C q_300 dX9_copyFrom_63 (fun M6 => ?_)
  refine ts_aload_n C dX9_copyFrom_66 rfl 0 rfl ?_
  refine ts_aload_n C dX9_copyFrom_67 rfl 1 rfl ?_
  refine tgX9_6 hb2 C q_302 dX9_copyFrom_68 ?_
  refine tpX9_6 hb C q_302 dX9_copyFrom_71 (fun M7 => ?_)
  refine ts_aload_n C dX9_copyFrom_74 rfl 0 rfl ?_
  refine ts_aload_n C dX9_copyFrom_75 rfl 1 rfl ?_
  refine tgX9_7 hb2 C q_304 dX9_copyFrom_76 ?_
  refine tpX9_7 hb C q_304 dX9_copyFrom_79 (fun M8 => ?_)
  refine ts_aload_n C dX9_copyFrom_82 rfl 0 rfl ?_
  refine ts_aload_n C dX9_copyFrom_83 rfl 1 rfl ?_
  refine tgX9_8 hb2 C q_306 dX9_copyFrom_84 ?_
  refine tpX9_8 hb C q_306 dX9_copyFrom_87 (fun M9 => ?_)
  exact ts_vreti C (Nat.zero_le _) (Nat.zero_le _) dX9_copyFrom_90
def wX9_refusalOf_B116 (b : Nat)  (Q : Int → ts_M → Prop)  (z0 : Int) (M : ts_M) : Prop :=
  Q z0 M
def wX9_refusalOf_B139 (b : Nat)  (Q : Int → ts_M → Prop)  (z0 : Int) (M : ts_M) : Prop :=
  Q z0 M
def wX9_refusalOf_B183 (b : Nat)  (Q : Int → ts_M → Prop)  (z0 : Int) (M : ts_M) : Prop :=
  Q z0 M
def wX9_refusalOf (b : Nat) (p1 : Int) (p2 : Int) (p3 : Int) (p4 : Int) (Q : Int → ts_M → Prop) (M : ts_M) : Prop :=
  ((0 ≤ p1 → ((0 ≤ p1 ∧ p1 < 12) ∧ ((0 ≤ ts_w p1 ∧ ts_w p1 < 12) ∧ ((ts_w (ts_w p1 + 1) = 1 → (wX9_refusalOfSpoon b p2 p3 (fun r2 M1 => Q r2 M1) M)) ∧ (¬ (ts_w (ts_w p1 + 1) = 1) → ((ts_w (ts_w p1 + 1) = 2 → (wX9_refusalOfProposal b p2 (fun r4 M3 => Q r4 M3) M)) ∧ (¬ (ts_w (ts_w p1 + 1) = 2) → ((ts_w (ts_w p1 + 1) = 3 → (wX4_placeOf b p2 (fun r6 M5 => ((¬ (ts_w r6 = (-1)) → (wX9_refusalOfMotion b 0 (fun r8 M7 => wX9_refusalOf_B116 b Q r8 M7) M5)) ∧ (ts_w r6 = (-1) → wX9_refusalOf_B116 b Q 4 M5))) M)) ∧ (¬ (ts_w (ts_w p1 + 1) = 3) → ((ts_w (ts_w p1 + 1) = 4 → (wX11_isBetween p2 (-20) 20 (fun r10 M9 => ((ts_w r10 = 0 → wX9_refusalOf_B139 b Q 1 M9) ∧ (¬ (ts_w r10 = 0) → (wX9_refusalOfMotion b 1 (fun r12 M11 => wX9_refusalOf_B139 b Q r12 M11) M9)))) M)) ∧ (¬ (ts_w (ts_w p1 + 1) = 4) → ((ts_w (ts_w p1 + 1) = 5 → (wX9_refusalOfMotion b 2 (fun r14 M13 => Q r14 M13) M)) ∧ (¬ (ts_w (ts_w p1 + 1) = 5) → ((ts_w (ts_w p1 + 1) = 6 → (wX9_refusalOfMotion b 3 (fun r16 M15 => Q r16 M15) M)) ∧ (¬ (ts_w (ts_w p1 + 1) = 6) → ((ts_w (ts_w p1 + 1) = 7 → (wX9_refusalOfMotion b 4 (fun r18 M17 => Q r18 M17) M)) ∧ (¬ (ts_w (ts_w p1 + 1) = 7) → ((ts_w (ts_w p1 + 1) = 8 → (wX9_refusalOfSpeech b p2 (fun r20 M19 => Q r20 M19) M)) ∧ (¬ (ts_w (ts_w p1 + 1) = 8) → ((ts_w (ts_w p1 + 1) = 9 → ((¬ (ts_w (M.1 (b + 9) 1) = 0) → wX9_refusalOf_B183 b Q 0 M) ∧ (ts_w (M.1 (b + 9) 1) = 0 → wX9_refusalOf_B183 b Q 4 M))) ∧ (¬ (ts_w (ts_w p1 + 1) = 9) → ((ts_w (ts_w p1 + 1) = 10 → (wX9_refusalOfSpill b p2 p3 p4 (fun r22 M21 => Q r22 M21) M)) ∧ (¬ (ts_w (ts_w p1 + 1) = 10) → ((ts_w (ts_w p1 + 1) = 11 → (wX9_refusalOfMop b p2 p3 (fun r24 M23 => Q r24 M23) M)) ∧ (¬ (ts_w (ts_w p1 + 1) = 11) → ((ts_w (ts_w p1 + 1) = 12 → (wX9_refusalOfSugar b p2 p3 (fun r26 M25 => Q r26 M25) M)) ∧ (¬ (ts_w (ts_w p1 + 1) = 12) → Q 1 M))))))))))))))))))))))))))) ∧ (¬ 0 ≤ p1 → Q 1 M))
set_option maxRecDepth 100000 in
set_option maxHeartbeats 4000000 in
theorem mX9_refusalOf {l : Launch} {g : ts_W} (hl : l.stackTraces = false) {b : Nat} (hb : ts_isS b) {p1 : Int} {p2 : Int} {p3 : Int} {p4 : Int} {Q : Int → ts_M → Prop} {M : ts_M} : wX9_refusalOf b p1 p2 p3 p4 Q M → ts_Con l g yX9_refusalOf cX9_refusalOf 5 (some (.object "TeaspoonSalon$Refusal")) 4 0 0 [.ref (ts_ad g b), ts_cx g p1, ts_v p2, ts_v p3, ts_v p4] M (ts_Rr g Q) := by
  intro h0
  refine ts_Con.of hl (by decide) (by unfold ts_cx; cases ts_cm g p1 <;> exact Nat.le_of_ble_eq_true rfl) ?_
  intro p e s m args below meth c C
  have H116 : ∀ (z0 : Int) (M : ts_M), wX9_refusalOf_B116 b  Q z0 M → ts_V p l e (ts_rm 4 0 0) s m args below meth c g 5 0 0 (MQ below (ts_Q g (ts_Rr g Q)) args s 0 0 (ts_A g)) 116 [] [ts_rv g z0] M := by
    intro  z0 M
    unfold wX9_refusalOf_B116
    exact ts_rreti C (Nat.zero_le _) (Nat.zero_le _) dX9_refusalOf_116
  have H139 : ∀ (z0 : Int) (M : ts_M), wX9_refusalOf_B139 b  Q z0 M → ts_V p l e (ts_rm 4 0 0) s m args below meth c g 5 0 0 (MQ below (ts_Q g (ts_Rr g Q)) args s 0 0 (ts_A g)) 139 [] [ts_rv g z0] M := by
    intro  z0 M
    unfold wX9_refusalOf_B139
    exact ts_rreti C (Nat.zero_le _) (Nat.zero_le _) dX9_refusalOf_139
  have H183 : ∀ (z0 : Int) (M : ts_M), wX9_refusalOf_B183 b  Q z0 M → ts_V p l e (ts_rm 4 0 0) s m args below meth c g 5 0 0 (MQ below (ts_Q g (ts_Rr g Q)) args s 0 0 (ts_A g)) 183 [] [ts_rv g z0] M := by
    intro  z0 M
    unfold wX9_refusalOf_B183
    exact ts_rreti C (Nat.zero_le _) (Nat.zero_le _) dX9_refusalOf_183
  revert h0
  unfold wX9_refusalOf
  have hl0 : lv_args 0 [.ref (ts_ad g b), ts_cx g p1, ts_v p2, ts_v p3, ts_v p4] = [(0, .ref (ts_ad g b)), (1, ts_cx g p1), (2, ts_v p2), (3, ts_v p3), (4, ts_v p4)] := (by unfold ts_cx; cases ts_cm g p1 <;> rfl)
  rw [hl0]
  refine ts_aloadq_n C dX9_refusalOf_0 rfl 1 rfl ?_
  refine ts_ifnonnullq C 8 dX9_refusalOf_1 rfl ?_ ?_
  · refine ts_getSM C q_1107 dX9_refusalOf_8 ?_
    refine ts_aloadq_n C dX9_refusalOf_11 rfl 1 rfl ?_
    refine ts_ord C q_1109 (Nat.le_of_ble_eq_true rfl) ⟨Nat.le_of_ble_eq_true rfl, Nat.le_of_ble_eq_true rfl⟩ ⟨Nat.le_of_ble_eq_true rfl, Nat.le_of_ble_eq_true rfl⟩ dX9_refusalOf_12 ?_
    refine ts_ialdSM C dX9_refusalOf_15 ?_
    refine ts_case rfl 1 (fun e0 => ?_) (fun e0 => ?_)
    · refine ts_tabIn C 1 e0 80 dX9_refusalOf_16 (by decide) (by decide) rfl rfl ?_
      refine ts_aload_n C dX9_refusalOf_80 rfl 0 rfl ?_
      refine ts_iload_n C dX9_refusalOf_81 rfl 2 rfl ?_
      refine ts_iload_n C dX9_refusalOf_82 rfl 3 rfl ?_
      refine ts_callVr C [ts_v p2, ts_v p3] (mX9_refusalOfSpoon hl hb) kX9_refusalOfSpoon q_1115 (ts_lt0 hb) (shX9 hb) rfl rfl rfl (Nat.le_of_ble_eq_true rfl) ⟨Nat.le_of_ble_eq_true rfl, Nat.le_of_ble_eq_true rfl⟩ ⟨Nat.le_of_ble_eq_true rfl, Nat.le_of_ble_eq_true rfl⟩ dX9_refusalOf_83 (fun r2 M1 => ?_)
      exact ts_rreti C (Nat.zero_le _) (Nat.zero_le _) dX9_refusalOf_86
    · refine ts_case rfl 2 (fun e1 => ?_) (fun e1 => ?_)
      · refine ts_tabIn C 2 e1 87 dX9_refusalOf_16 (by decide) (by decide) rfl rfl ?_
        refine ts_aload_n C dX9_refusalOf_87 rfl 0 rfl ?_
        refine ts_iload_n C dX9_refusalOf_88 rfl 2 rfl ?_
        refine ts_callVr C [ts_v p2] (mX9_refusalOfProposal hl hb) kX9_refusalOfProposal q_1124 (ts_lt0 hb) (shX9 hb) rfl rfl rfl (Nat.le_of_ble_eq_true rfl) ⟨Nat.le_of_ble_eq_true rfl, Nat.le_of_ble_eq_true rfl⟩ ⟨Nat.le_of_ble_eq_true rfl, Nat.le_of_ble_eq_true rfl⟩ dX9_refusalOf_89 (fun r4 M3 => ?_)
        exact ts_rreti C (Nat.zero_le _) (Nat.zero_le _) dX9_refusalOf_92
      · refine ts_case rfl 3 (fun e2 => ?_) (fun e2 => ?_)
        · refine ts_tabIn C 3 e2 93 dX9_refusalOf_16 (by decide) (by decide) rfl rfl ?_
          refine ts_aload_n C dX9_refusalOf_93 rfl 0 rfl ?_
          refine tgX9_1 hb C q_292 dX9_refusalOf_94 ?_
          refine ts_iload_n C dX9_refusalOf_97 rfl 2 rfl ?_
          refine ts_callVi C [ts_v p2] (mX4_placeOf hl hb) kX4_placeOf q_1128 (ts_lt hb 6 (by decide)) (shX4 hb) rfl rfl rfl (Nat.le_of_ble_eq_true rfl) ⟨Nat.le_of_ble_eq_true rfl, Nat.le_of_ble_eq_true rfl⟩ ⟨Nat.le_of_ble_eq_true rfl, Nat.le_of_ble_eq_true rfl⟩ dX9_refusalOf_98 (fun r6 M5 => ?_)
          refine ts_iconst C dX9_refusalOf_101 (-1) rfl ?_
          refine ts_cmp_ne C rfl tw_m1 111 dX9_refusalOf_102 rfl ?_ ?_
          · refine ts_aload_n C dX9_refusalOf_111 rfl 0 rfl ?_
            refine ts_iconst C dX9_refusalOf_112 0 rfl ?_
            refine ts_callVr C [ts_v 0] (mX9_refusalOfMotion hl hb) kX9_refusalOfMotion q_1134 (ts_lt0 hb) (shX9 hb) rfl rfl rfl (Nat.le_of_ble_eq_true rfl) ⟨Nat.le_of_ble_eq_true rfl, Nat.le_of_ble_eq_true rfl⟩ ⟨Nat.le_of_ble_eq_true rfl, Nat.le_of_ble_eq_true rfl⟩ dX9_refusalOf_113 (fun r8 M7 => ?_)
            exact ts_sub [] rfl (H116 _ _)
          · refine ts_getR C 4 (by decide) q_1132 dX9_refusalOf_105 ?_
            refine ts_goto C 116 dX9_refusalOf_108 rfl ?_
            exact ts_sub [] rfl (H116 _ _)
        · refine ts_case rfl 4 (fun e3 => ?_) (fun e3 => ?_)
          · refine ts_tabIn C 4 e3 117 dX9_refusalOf_16 (by decide) (by decide) rfl rfl ?_
            refine ts_iload_n C dX9_refusalOf_117 rfl 2 rfl ?_
            refine ts_bipush C dX9_refusalOf_118 (-20) tb_m20 ?_
            refine ts_bipush C dX9_refusalOf_120 20 tb_20 ?_
            refine ts_callSNi (host := "TeaspoonSalon") C [ts_v p2, ts_v (-20), ts_v 20] (mX11_isBetween hl) kX11_isBetween qn_13 rfl rfl (Nat.le_of_ble_eq_true rfl) ⟨Nat.le_of_ble_eq_true rfl, Nat.le_of_ble_eq_true rfl⟩ ⟨Nat.le_of_ble_eq_true rfl, Nat.le_of_ble_eq_true rfl⟩ dX9_refusalOf_122 (fun r10 M9 => ?_)
            refine ts_cm0_eq C rfl 136 dX9_refusalOf_125 rfl ?_ ?_
            · refine ts_getR C 1 (by decide) q_1105 dX9_refusalOf_136 ?_
              exact ts_sub [] rfl (H139 _ _)
            · refine ts_aload_n C dX9_refusalOf_128 rfl 0 rfl ?_
              refine ts_iconst C dX9_refusalOf_129 1 rfl ?_
              refine ts_callVr C [ts_v 1] (mX9_refusalOfMotion hl hb) kX9_refusalOfMotion q_1134 (ts_lt0 hb) (shX9 hb) rfl rfl rfl (Nat.le_of_ble_eq_true rfl) ⟨Nat.le_of_ble_eq_true rfl, Nat.le_of_ble_eq_true rfl⟩ ⟨Nat.le_of_ble_eq_true rfl, Nat.le_of_ble_eq_true rfl⟩ dX9_refusalOf_130 (fun r12 M11 => ?_)
              refine ts_goto C 139 dX9_refusalOf_133 rfl ?_
              exact ts_sub [] rfl (H139 _ _)
          · refine ts_case rfl 5 (fun e4 => ?_) (fun e4 => ?_)
            · refine ts_tabIn C 5 e4 140 dX9_refusalOf_16 (by decide) (by decide) rfl rfl ?_
              refine ts_aload_n C dX9_refusalOf_140 rfl 0 rfl ?_
              refine ts_iconst C dX9_refusalOf_141 2 rfl ?_
              refine ts_callVr C [ts_v 2] (mX9_refusalOfMotion hl hb) kX9_refusalOfMotion q_1134 (ts_lt0 hb) (shX9 hb) rfl rfl rfl (Nat.le_of_ble_eq_true rfl) ⟨Nat.le_of_ble_eq_true rfl, Nat.le_of_ble_eq_true rfl⟩ ⟨Nat.le_of_ble_eq_true rfl, Nat.le_of_ble_eq_true rfl⟩ dX9_refusalOf_142 (fun r14 M13 => ?_)
              exact ts_rreti C (Nat.zero_le _) (Nat.zero_le _) dX9_refusalOf_145
            · refine ts_case rfl 6 (fun e5 => ?_) (fun e5 => ?_)
              · refine ts_tabIn C 6 e5 146 dX9_refusalOf_16 (by decide) (by decide) rfl rfl ?_
                refine ts_aload_n C dX9_refusalOf_146 rfl 0 rfl ?_
                refine ts_iconst C dX9_refusalOf_147 3 rfl ?_
                refine ts_callVr C [ts_v 3] (mX9_refusalOfMotion hl hb) kX9_refusalOfMotion q_1134 (ts_lt0 hb) (shX9 hb) rfl rfl rfl (Nat.le_of_ble_eq_true rfl) ⟨Nat.le_of_ble_eq_true rfl, Nat.le_of_ble_eq_true rfl⟩ ⟨Nat.le_of_ble_eq_true rfl, Nat.le_of_ble_eq_true rfl⟩ dX9_refusalOf_148 (fun r16 M15 => ?_)
                exact ts_rreti C (Nat.zero_le _) (Nat.zero_le _) dX9_refusalOf_151
              · refine ts_case rfl 7 (fun e6 => ?_) (fun e6 => ?_)
                · refine ts_tabIn C 7 e6 152 dX9_refusalOf_16 (by decide) (by decide) rfl rfl ?_
                  refine ts_aload_n C dX9_refusalOf_152 rfl 0 rfl ?_
                  refine ts_iconst C dX9_refusalOf_153 4 rfl ?_
                  refine ts_callVr C [ts_v 4] (mX9_refusalOfMotion hl hb) kX9_refusalOfMotion q_1134 (ts_lt0 hb) (shX9 hb) rfl rfl rfl (Nat.le_of_ble_eq_true rfl) ⟨Nat.le_of_ble_eq_true rfl, Nat.le_of_ble_eq_true rfl⟩ ⟨Nat.le_of_ble_eq_true rfl, Nat.le_of_ble_eq_true rfl⟩ dX9_refusalOf_154 (fun r18 M17 => ?_)
                  exact ts_rreti C (Nat.zero_le _) (Nat.zero_le _) dX9_refusalOf_157
                · refine ts_case rfl 8 (fun e7 => ?_) (fun e7 => ?_)
                  · refine ts_tabIn C 8 e7 158 dX9_refusalOf_16 (by decide) (by decide) rfl rfl ?_
                    refine ts_aload_n C dX9_refusalOf_158 rfl 0 rfl ?_
                    refine ts_iload_n C dX9_refusalOf_159 rfl 2 rfl ?_
                    refine ts_callVr C [ts_v p2] (mX9_refusalOfSpeech hl hb) kX9_refusalOfSpeech q_1148 (ts_lt0 hb) (shX9 hb) rfl rfl rfl (Nat.le_of_ble_eq_true rfl) ⟨Nat.le_of_ble_eq_true rfl, Nat.le_of_ble_eq_true rfl⟩ ⟨Nat.le_of_ble_eq_true rfl, Nat.le_of_ble_eq_true rfl⟩ dX9_refusalOf_160 (fun r20 M19 => ?_)
                    exact ts_rreti C (Nat.zero_le _) (Nat.zero_le _) dX9_refusalOf_163
                  · refine ts_case rfl 9 (fun e8 => ?_) (fun e8 => ?_)
                    · refine ts_tabIn C 9 e8 164 dX9_refusalOf_16 (by decide) (by decide) rfl rfl ?_
                      refine ts_aload_n C dX9_refusalOf_164 rfl 0 rfl ?_
                      refine tgX9_2 hb C q_295 dX9_refusalOf_165 ?_
                      refine tgX10_1 hb C q_248 dX9_refusalOf_168 ?_
                      refine ts_cm0_ne C rfl 180 dX9_refusalOf_171 rfl ?_ ?_
                      · refine ts_getR C 0 (by decide) q_1122 dX9_refusalOf_180 ?_
                        exact ts_sub [] rfl (H183 _ _)
                      · refine ts_getR C 4 (by decide) q_1132 dX9_refusalOf_174 ?_
                        refine ts_goto C 183 dX9_refusalOf_177 rfl ?_
                        exact ts_sub [] rfl (H183 _ _)
                    · refine ts_case rfl 10 (fun e9 => ?_) (fun e9 => ?_)
                      · refine ts_tabIn C 10 e9 184 dX9_refusalOf_16 (by decide) (by decide) rfl rfl ?_
                        refine ts_aload_n C dX9_refusalOf_184 rfl 0 rfl ?_
                        refine ts_iload_n C dX9_refusalOf_185 rfl 2 rfl ?_
                        refine ts_iload_n C dX9_refusalOf_186 rfl 3 rfl ?_
                        refine ts_iload C dX9_refusalOf_187 4 rfl ?_
                        refine ts_callVr C [ts_v p2, ts_v p3, ts_v p4] (mX9_refusalOfSpill hl hb) kX9_refusalOfSpill q_1158 (ts_lt0 hb) (shX9 hb) rfl rfl rfl (Nat.le_of_ble_eq_true rfl) ⟨Nat.le_of_ble_eq_true rfl, Nat.le_of_ble_eq_true rfl⟩ ⟨Nat.le_of_ble_eq_true rfl, Nat.le_of_ble_eq_true rfl⟩ dX9_refusalOf_189 (fun r22 M21 => ?_)
                        exact ts_rreti C (Nat.zero_le _) (Nat.zero_le _) dX9_refusalOf_192
                      · refine ts_case rfl 11 (fun e10 => ?_) (fun e10 => ?_)
                        · refine ts_tabIn C 11 e10 193 dX9_refusalOf_16 (by decide) (by decide) rfl rfl ?_
                          refine ts_aload_n C dX9_refusalOf_193 rfl 0 rfl ?_
                          refine ts_iload_n C dX9_refusalOf_194 rfl 2 rfl ?_
                          refine ts_iload_n C dX9_refusalOf_195 rfl 3 rfl ?_
                          refine ts_callVr C [ts_v p2, ts_v p3] (mX9_refusalOfMop hl hb) kX9_refusalOfMop q_1166 (ts_lt0 hb) (shX9 hb) rfl rfl rfl (Nat.le_of_ble_eq_true rfl) ⟨Nat.le_of_ble_eq_true rfl, Nat.le_of_ble_eq_true rfl⟩ ⟨Nat.le_of_ble_eq_true rfl, Nat.le_of_ble_eq_true rfl⟩ dX9_refusalOf_196 (fun r24 M23 => ?_)
                          exact ts_rreti C (Nat.zero_le _) (Nat.zero_le _) dX9_refusalOf_199
                        · refine ts_case rfl 12 (fun e11 => ?_) (fun e11 => ?_)
                          · refine ts_tabIn C 12 e11 200 dX9_refusalOf_16 (by decide) (by decide) rfl rfl ?_
                            refine ts_aload_n C dX9_refusalOf_200 rfl 0 rfl ?_
                            refine ts_iload_n C dX9_refusalOf_201 rfl 2 rfl ?_
                            refine ts_iload_n C dX9_refusalOf_202 rfl 3 rfl ?_
                            refine ts_callVr C [ts_v p2, ts_v p3] (mX9_refusalOfSugar hl hb) kX9_refusalOfSugar q_1171 (ts_lt0 hb) (shX9 hb) rfl rfl rfl (Nat.le_of_ble_eq_true rfl) ⟨Nat.le_of_ble_eq_true rfl, Nat.le_of_ble_eq_true rfl⟩ ⟨Nat.le_of_ble_eq_true rfl, Nat.le_of_ble_eq_true rfl⟩ dX9_refusalOf_203 (fun r26 M25 => ?_)
                            exact ts_rreti C (Nat.zero_le _) (Nat.zero_le _) dX9_refusalOf_206
                          · refine ts_tabOut C 207 dX9_refusalOf_16 (by omega) rfl ?_
                            refine ts_getR C 1 (by decide) q_1105 dX9_refusalOf_207 ?_
                            exact ts_rreti C (Nat.zero_le _) (Nat.zero_le _) dX9_refusalOf_210
  · refine ts_getR C 1 (by decide) q_1105 dX9_refusalOf_4 ?_
    exact ts_rreti C (Nat.zero_le _) (Nat.zero_le _) dX9_refusalOf_7
def wJ0_charAt_5068e (q : Nat) (p1 : Int) (Q : Int → ts_M → Prop) (M : ts_M) : Prop :=
  (wJ0_isLatin1_aae02 q (fun r2 M1 => ((ts_w r2 = 0 → False) ∧ (¬ (ts_w r2 = 0) → (wJ1_charAt_3b067 q p1 (fun r4 M3 => ((0 ≤ ts_w r4 ∧ ts_w r4 < 65536) ∧ Q r4 M3)) M1)))) M)
set_option maxRecDepth 100000 in
set_option maxHeartbeats 4000000 in
theorem mJ0_charAt_5068e {l : Launch} {g : ts_W} (hl : l.stackTraces = false) {q : Nat} (hq : q < 13) {p1 : Int} {Q : Int → ts_M → Prop} {M : ts_M} : wJ0_charAt_5068e q p1 Q M → ts_Con l g yJ0_charAt_5068e cJ0_charAt_5068e 2 (some .char) 3 0 0 [ts_kv g q, ts_v p1] M (ts_Ri Q) := by
  intro h0
  refine ts_Con.of hl (by decide) (Nat.le_of_ble_eq_true rfl) ?_
  intro p e s m args below meth c C
  revert h0
  unfold wJ0_charAt_5068e
  have hl0 : lv_args 0 [ts_kv g q, ts_v p1] = [(0, ts_kv g q), (1, ts_v p1)] := rfl
  rw [hl0]
  refine ts_aload_n C dJ0_charAt_5068e_0 rfl 0 rfl ?_
  refine ts_callRi C [] (mJ0_isLatin1_aae02 hl hq) kJ0_isLatin1_aae02 q_1018 (ts_recS C hq) rfl rfl (Nat.le_of_ble_eq_true rfl) ⟨Nat.le_of_ble_eq_true rfl, Nat.le_of_ble_eq_true rfl⟩ ⟨Nat.le_of_ble_eq_true rfl, Nat.le_of_ble_eq_true rfl⟩ dJ0_charAt_5068e_1 (fun r2 M1 => ?_)
  refine ts_cm0_eq C rfl 16 dJ0_charAt_5068e_4 rfl ?_ ?_
  · exact fun h => h.elim
  · refine ts_aload_n C dJ0_charAt_5068e_7 rfl 0 rfl ?_
    refine ts_getSv C hq q_941 dJ0_charAt_5068e_8 ?_
    refine ts_iload_n C dJ0_charAt_5068e_11 rfl 1 rfl ?_
    refine ts_callSi C [ts_bv g q, ts_v p1] (mJ1_charAt_3b067 hl hq) kJ1_charAt_3b067 q_1022 rfl rfl (Nat.le_of_ble_eq_true rfl) ⟨Nat.le_of_ble_eq_true rfl, Nat.le_of_ble_eq_true rfl⟩ ⟨Nat.le_of_ble_eq_true rfl, Nat.le_of_ble_eq_true rfl⟩ dJ0_charAt_5068e_12 (fun r4 M3 => ?_)
    exact ts_creti C (Nat.zero_le _) (Nat.zero_le _) dJ0_charAt_5068e_15
def wJ0_indexOf_7cf53_B36 (q : Nat)  (Q : Int → ts_M → Prop)  (z0 : Int) (M : ts_M) : Prop :=
  Q z0 M
def wJ0_indexOf_7cf53 (q : Nat) (p1 : Int) (p2 : Int) (Q : Int → ts_M → Prop) (M : ts_M) : Prop :=
  (wJ0_isLatin1_aae02 q (fun r2 M1 => ((ts_w r2 = 0 → False) ∧ (¬ (ts_w r2 = 0) → (wJ0_length_8abf5 q (fun r6 M5 => (wJ1_indexOf_4cfef q p1 p2 r6 (fun r8 M7 => wJ0_indexOf_7cf53_B36 q Q r8 M7) M5)) M1)))) M)
set_option maxRecDepth 100000 in
set_option maxHeartbeats 4000000 in
theorem mJ0_indexOf_7cf53 {l : Launch} {g : ts_W} (hl : l.stackTraces = false) {q : Nat} (hq : q < 13) {p1 : Int} {p2 : Int} {Q : Int → ts_M → Prop} {M : ts_M} : wJ0_indexOf_7cf53 q p1 p2 Q M → ts_Con l g yJ0_indexOf_7cf53 cJ0_indexOf_7cf53 3 (some .int) 2 0 0 [ts_kv g q, ts_v p1, ts_v p2] M (ts_Ri Q) := by
  intro h0
  refine ts_Con.of hl (by decide) (Nat.le_of_ble_eq_true rfl) ?_
  intro p e s m args below meth c C
  have H36 : ∀ (z0 : Int) (M : ts_M), wJ0_indexOf_7cf53_B36 q  Q z0 M → ts_V p l e (ts_rm 2 0 0) s m args below meth c g 3 0 0 (MQ below (ts_Q g (ts_Ri Q)) args s 0 0 (ts_A g)) 36 [] [ts_v z0] M := by
    intro  z0 M
    unfold wJ0_indexOf_7cf53_B36
    exact ts_ireti C (Nat.zero_le _) (Nat.zero_le _) dJ0_indexOf_7cf53_36
  revert h0
  unfold wJ0_indexOf_7cf53
  have hl0 : lv_args 0 [ts_kv g q, ts_v p1, ts_v p2] = [(0, ts_kv g q), (1, ts_v p1), (2, ts_v p2)] := rfl
  rw [hl0]
  refine ts_aload_n C dJ0_indexOf_7cf53_0 rfl 0 rfl ?_
  refine ts_callRi C [] (mJ0_isLatin1_aae02 hl hq) kJ0_isLatin1_aae02 q_1018 (ts_recS C hq) rfl rfl (Nat.le_of_ble_eq_true rfl) ⟨Nat.le_of_ble_eq_true rfl, Nat.le_of_ble_eq_true rfl⟩ ⟨Nat.le_of_ble_eq_true rfl, Nat.le_of_ble_eq_true rfl⟩ dJ0_indexOf_7cf53_1 (fun r2 M1 => ?_)
  refine ts_cm0_eq C rfl 23 dJ0_indexOf_7cf53_4 rfl ?_ ?_
  · exact fun h => h.elim
  · refine ts_aload_n C dJ0_indexOf_7cf53_7 rfl 0 rfl ?_
    refine ts_getSv C hq q_941 dJ0_indexOf_7cf53_8 ?_
    refine ts_iload_n C dJ0_indexOf_7cf53_11 rfl 1 rfl ?_
    refine ts_iload_n C dJ0_indexOf_7cf53_12 rfl 2 rfl ?_
    refine ts_aload_n C dJ0_indexOf_7cf53_13 rfl 0 rfl ?_
    refine ts_callRi C [] (mJ0_length_8abf5 hl hq) kJ0_length_8abf5 q_1602 (ts_recS C hq) rfl rfl (Nat.le_of_ble_eq_true rfl) ⟨Nat.le_of_ble_eq_true rfl, Nat.le_of_ble_eq_true rfl⟩ ⟨Nat.le_of_ble_eq_true rfl, Nat.le_of_ble_eq_true rfl⟩ dJ0_indexOf_7cf53_14 (fun r6 M5 => ?_)
    refine ts_callSi C [ts_bv g q, ts_v p1, ts_v p2, ts_v r6] (mJ1_indexOf_4cfef hl hq) kJ1_indexOf_4cfef q_1603 rfl rfl (Nat.le_of_ble_eq_true rfl) ⟨Nat.le_of_ble_eq_true rfl, Nat.le_of_ble_eq_true rfl⟩ ⟨Nat.le_of_ble_eq_true rfl, Nat.le_of_ble_eq_true rfl⟩ dJ0_indexOf_7cf53_17 (fun r8 M7 => ?_)
    refine ts_goto C 36 dJ0_indexOf_7cf53_20 rfl ?_
    exact ts_sub [] rfl (H36 _ _)
def wX11_save (Q : Int → ts_M → Prop) (M : ts_M) : Prop :=
  (wX9_copyFrom 28 0 (fun M1 => (∀ M2, M2 = ts_si M1 154 7 1 → Q (M2.1 1 4) M2)) M)
set_option maxRecDepth 100000 in
set_option maxHeartbeats 4000000 in
theorem mX11_save {l : Launch} {g : ts_W} (hl : l.stackTraces = false) {Q : Int → ts_M → Prop} {M : ts_M} : wX11_save Q M → ts_Con l g yX11_save cX11_save 1 (some .int) 5 0 0 [.ref (ts_ad g 154)] M (ts_Ri Q) := by
  intro h0
  refine ts_Con.of hl (by decide) (Nat.le_of_ble_eq_true rfl) ?_
  intro p e s m args below meth c C
  revert h0
  unfold wX11_save
  have hl0 : lv_args 0 [.ref (ts_ad g 154)] = [(0, .ref (ts_ad g 154))] := rfl
  rw [hl0]
  refine ts_aload_n C dX11_save_0 rfl 0 rfl ?_
  refine tgX11_2 C q_430 dX11_save_1 ?_
  refine ts_aload_n C dX11_save_4 rfl 0 rfl ?_
  refine tgX11_0 C q_428 dX11_save_5 ?_
  refine ts_callVv C [.ref (ts_ad g 0)] (mX9_copyFrom hl ts_iS28 ts_iS0) kX9_copyFrom q_1062 (ts_lt0 ts_iS28) (shX9 ts_iS28) rfl rfl rfl (Nat.le_of_ble_eq_true rfl) ⟨Nat.le_of_ble_eq_true rfl, Nat.le_of_ble_eq_true rfl⟩ ⟨Nat.le_of_ble_eq_true rfl, Nat.le_of_ble_eq_true rfl⟩ dX11_save_8 (fun M1 => ?_)
  refine ts_aload_n C dX11_save_11 rfl 0 rfl ?_
  refine ts_iconst C dX11_save_12 1 rfl ?_
  refine tpX11_7c C (by decide) q_435 dX11_save_13 (fun M2 => ?_)
  refine ts_aload_n C dX11_save_16 rfl 0 rfl ?_
  refine tgX11_0 C q_428 dX11_save_17 ?_
  refine tgX9_0 ts_iS0 C q_291 dX11_save_20 ?_
  refine tgX8_4 ts_iS0 C q_192 dX11_save_23 ?_
  exact ts_ireti C (Nat.zero_le _) (Nat.zero_le _) dX11_save_26
def wX3_remember_B54 (b : Nat)  (Q : ts_M → Prop)   (M : ts_M) : Prop :=
  Q M
def wX3_remember (b : Nat) (Q : ts_M → Prop) (M : ts_M) : Prop :=
  (wJ9_floorMod_7cf53 (M.1 158 1) 8 (fun r2 M1 => ((0 ≤ ts_w r2 ∧ ts_w r2 < 8) ∧ ∀ b3 : Nat, b3 = 14 * ((ts_w r2).toNat + 3) → (wX9_copyFrom b3 b (fun M4 => (wJ9_floorMod_7cf53 ((M4.1 158 1) + 1) 8 (fun r6 M5 => (∀ M7, M7 = ts_si M5 158 1 r6 → (wJ9_min_7cf53 ((M7.1 158 2) + 1) 8 (fun r9 M8 => (∀ M10, M10 = ts_si M8 158 2 r9 → wX3_remember_B54 b Q M10)) M7))) M4)) M1))) M)
set_option maxRecDepth 100000 in
set_option maxHeartbeats 4000000 in
theorem mX3_remember {l : Launch} {g : ts_W} (hl : l.stackTraces = false) {b : Nat} (hb : ts_isS b) {Q : ts_M → Prop} {M : ts_M} : wX3_remember b Q M → ts_Con l g yX3_remember cX3_remember 3 none 5 0 0 [.ref (ts_ad g 158), .ref (ts_ad g b)] M (ts_Rv Q) := by
  intro h0
  refine ts_Con.of hl (by decide) (Nat.le_of_ble_eq_true rfl) ?_
  intro p e s m args below meth c C
  have H54 : ∀  (M : ts_M), wX3_remember_B54 b  Q  M → ts_V p l e (ts_rm 5 0 0) s m args below meth c g 3 0 0 (MQ below (ts_Q g (ts_Rv Q)) args s 0 0 (ts_A g)) 54 [] [] M := by
    intro   M
    unfold wX3_remember_B54
    exact ts_vreti C (Nat.zero_le _) (Nat.zero_le _) dX3_remember_54
  revert h0
  unfold wX3_remember
  have hl0 : lv_args 0 [.ref (ts_ad g 158), .ref (ts_ad g b)] = [(0, .ref (ts_ad g 158)), (1, .ref (ts_ad g b))] := rfl
  rw [hl0]
  refine ts_aload_n C dX3_remember_0 rfl 0 rfl ?_
  refine tgX3_0 C q_336 dX3_remember_1 ?_
  refine ts_aload_n C dX3_remember_4 rfl 0 rfl ?_
  refine tgX3_1 C q_337 dX3_remember_5 ?_
  refine ts_bipush C dX3_remember_8 8 tb_8 ?_
  refine ts_callSi C [ts_v (M.1 158 1), ts_v 8] (mJ9_floorMod_7cf53 hl) kJ9_floorMod_7cf53 q_1251 rfl rfl (Nat.le_of_ble_eq_true rfl) ⟨Nat.le_of_ble_eq_true rfl, Nat.le_of_ble_eq_true rfl⟩ ⟨Nat.le_of_ble_eq_true rfl, Nat.le_of_ble_eq_true rfl⟩ dX3_remember_10 (fun r2 M1 => ?_)
  refine ts_aldS C dX3_remember_13 (fun b3 hb3 => ?_)
  refine ts_astore_n C dX3_remember_14 rfl (by decide) (lv' := [(2, .ref (ts_ad g b3)), (0, .ref (ts_ad g 158)), (1, .ref (ts_ad g b))]) rfl ?_
  refine ts_aload_n C dX3_remember_15 rfl 0 rfl ?_
  refine ts_ifnull C dX3_remember_16 ?_
  refine ts_aload_n C dX3_remember_19 rfl 0 rfl ?_
  refine ts_aload_n C dX3_remember_20 rfl 2 rfl ?_
  refine ts_callVv C [.ref (ts_ad g b)] (mX9_copyFrom hl hb3 hb) kX9_copyFrom q_1254 (ts_lt0 hb3) (shX9 hb3) rfl rfl rfl (Nat.le_of_ble_eq_true rfl) ⟨Nat.le_of_ble_eq_true rfl, Nat.le_of_ble_eq_true rfl⟩ ⟨Nat.le_of_ble_eq_true rfl, Nat.le_of_ble_eq_true rfl⟩ dX3_remember_21 (fun M4 => ?_)
  refine ts_aload_n C dX3_remember_24 rfl 1 rfl ?_
  refine ts_aload_n C dX3_remember_25 rfl 1 rfl ?_
  refine tgX3_1 C q_337 dX3_remember_26 ?_
  refine ts_iconst C dX3_remember_29 1 rfl ?_
  refine ts_iadd C dX3_remember_30 ?_
  refine ts_bipush C dX3_remember_31 8 tb_8 ?_
  refine ts_callSi C [ts_v ((M4.1 158 1) + 1), ts_v 8] (mJ9_floorMod_7cf53 hl) kJ9_floorMod_7cf53 q_1251 rfl rfl (Nat.le_of_ble_eq_true rfl) ⟨Nat.le_of_ble_eq_true rfl, Nat.le_of_ble_eq_true rfl⟩ ⟨Nat.le_of_ble_eq_true rfl, Nat.le_of_ble_eq_true rfl⟩ dX3_remember_33 (fun r6 M5 => ?_)
  refine tpX3_1 C q_337 dX3_remember_36 (fun M7 => ?_)
  refine ts_aload_n C dX3_remember_39 rfl 1 rfl ?_
  refine ts_aload_n C dX3_remember_40 rfl 1 rfl ?_
  refine tgX3_2 C q_338 dX3_remember_41 ?_
  refine ts_iconst C dX3_remember_44 1 rfl ?_
  refine ts_iadd C dX3_remember_45 ?_
  refine ts_bipush C dX3_remember_46 8 tb_8 ?_
  refine ts_callSi C [ts_v ((M7.1 158 2) + 1), ts_v 8] (mJ9_min_7cf53 hl) kJ9_min_7cf53 q_1255 rfl rfl (Nat.le_of_ble_eq_true rfl) ⟨Nat.le_of_ble_eq_true rfl, Nat.le_of_ble_eq_true rfl⟩ ⟨Nat.le_of_ble_eq_true rfl, Nat.le_of_ble_eq_true rfl⟩ dX3_remember_48 (fun r9 M8 => ?_)
  refine tpX3_2 C q_338 dX3_remember_51 (fun M10 => ?_)
  exact ts_sub [] rfl (H54 _)
def wX3_stepBack_B58 (b : Nat)  (Q : ts_M → Prop)   (M : ts_M) : Prop :=
  Q M
def wX3_stepBack (b : Nat) (Q : ts_M → Prop) (M : ts_M) : Prop :=
  (wJ9_floorMod_7cf53 ((M.1 158 1) - 1) 8 (fun r2 M1 => ((0 ≤ ts_w r2 ∧ ts_w r2 < 8) ∧ ∀ b3 : Nat, b3 = 14 * ((ts_w r2).toNat + 3) → ((ts_w (M1.1 158 2) ≤ 0 → wX3_stepBack_B58 b Q M1) ∧ (¬ (ts_w (M1.1 158 2) ≤ 0) → (wX9_copyFrom b b3 (fun M4 => (wJ9_floorMod_7cf53 ((M4.1 158 1) - 1) 8 (fun r6 M5 => (∀ M7, M7 = ts_si M5 158 1 r6 → (∀ M8, M8 = ts_si M7 158 2 ((M7.1 158 2) - 1) → wX3_stepBack_B58 b Q M8))) M4)) M1))))) M)
set_option maxRecDepth 100000 in
set_option maxHeartbeats 4000000 in
theorem mX3_stepBack {l : Launch} {g : ts_W} (hl : l.stackTraces = false) {b : Nat} (hb : ts_isS b) {Q : ts_M → Prop} {M : ts_M} : wX3_stepBack b Q M → ts_Con l g yX3_stepBack cX3_stepBack 3 none 5 0 0 [.ref (ts_ad g 158), .ref (ts_ad g b)] M (ts_Rv Q) := by
  intro h0
  refine ts_Con.of hl (by decide) (Nat.le_of_ble_eq_true rfl) ?_
  intro p e s m args below meth c C
  have H58 : ∀  (M : ts_M), wX3_stepBack_B58 b  Q  M → ts_V p l e (ts_rm 5 0 0) s m args below meth c g 3 0 0 (MQ below (ts_Q g (ts_Rv Q)) args s 0 0 (ts_A g)) 58 [] [] M := by
    intro   M
    unfold wX3_stepBack_B58
    exact ts_vreti C (Nat.zero_le _) (Nat.zero_le _) dX3_stepBack_58
  revert h0
  unfold wX3_stepBack
  have hl0 : lv_args 0 [.ref (ts_ad g 158), .ref (ts_ad g b)] = [(0, .ref (ts_ad g 158)), (1, .ref (ts_ad g b))] := rfl
  rw [hl0]
  refine ts_aload_n C dX3_stepBack_0 rfl 0 rfl ?_
  refine tgX3_0 C q_336 dX3_stepBack_1 ?_
  refine ts_aload_n C dX3_stepBack_4 rfl 0 rfl ?_
  refine tgX3_1 C q_337 dX3_stepBack_5 ?_
  refine ts_iconst C dX3_stepBack_8 1 rfl ?_
  refine ts_isub C dX3_stepBack_9 ?_
  refine ts_bipush C dX3_stepBack_10 8 tb_8 ?_
  refine ts_callSi C [ts_v ((M.1 158 1) - 1), ts_v 8] (mJ9_floorMod_7cf53 hl) kJ9_floorMod_7cf53 q_1251 rfl rfl (Nat.le_of_ble_eq_true rfl) ⟨Nat.le_of_ble_eq_true rfl, Nat.le_of_ble_eq_true rfl⟩ ⟨Nat.le_of_ble_eq_true rfl, Nat.le_of_ble_eq_true rfl⟩ dX3_stepBack_12 (fun r2 M1 => ?_)
  refine ts_aldS C dX3_stepBack_15 (fun b3 hb3 => ?_)
  refine ts_astore_n C dX3_stepBack_16 rfl (by decide) (lv' := [(2, .ref (ts_ad g b3)), (0, .ref (ts_ad g 158)), (1, .ref (ts_ad g b))]) rfl ?_
  refine ts_aload_n C dX3_stepBack_17 rfl 0 rfl ?_
  refine ts_ifnull C dX3_stepBack_18 ?_
  refine ts_aload_n C dX3_stepBack_21 rfl 1 rfl ?_
  refine tgX3_2 C q_338 dX3_stepBack_22 ?_
  refine ts_cm0_le C rfl 58 dX3_stepBack_25 rfl ?_ ?_
  · exact ts_sub [] rfl (H58 _)
  · refine ts_aload_n C dX3_stepBack_28 rfl 2 rfl ?_
    refine ts_aload_n C dX3_stepBack_29 rfl 0 rfl ?_
    refine ts_callVv C [.ref (ts_ad g b3)] (mX9_copyFrom hl hb hb3) kX9_copyFrom q_1254 (ts_lt0 hb) (shX9 hb) rfl rfl rfl (Nat.le_of_ble_eq_true rfl) ⟨Nat.le_of_ble_eq_true rfl, Nat.le_of_ble_eq_true rfl⟩ ⟨Nat.le_of_ble_eq_true rfl, Nat.le_of_ble_eq_true rfl⟩ dX3_stepBack_30 (fun M4 => ?_)
    refine ts_aload_n C dX3_stepBack_33 rfl 1 rfl ?_
    refine ts_aload_n C dX3_stepBack_34 rfl 1 rfl ?_
    refine tgX3_1 C q_337 dX3_stepBack_35 ?_
    refine ts_iconst C dX3_stepBack_38 1 rfl ?_
    refine ts_isub C dX3_stepBack_39 ?_
    refine ts_bipush C dX3_stepBack_40 8 tb_8 ?_
    refine ts_callSi C [ts_v ((M4.1 158 1) - 1), ts_v 8] (mJ9_floorMod_7cf53 hl) kJ9_floorMod_7cf53 q_1251 rfl rfl (Nat.le_of_ble_eq_true rfl) ⟨Nat.le_of_ble_eq_true rfl, Nat.le_of_ble_eq_true rfl⟩ ⟨Nat.le_of_ble_eq_true rfl, Nat.le_of_ble_eq_true rfl⟩ dX3_stepBack_42 (fun r6 M5 => ?_)
    refine tpX3_1 C q_337 dX3_stepBack_45 (fun M7 => ?_)
    refine ts_aload_n C dX3_stepBack_48 rfl 1 rfl ?_
    refine ts_dup C dX3_stepBack_49 rfl ?_
    refine tgX3_2 C q_338 dX3_stepBack_50 ?_
    refine ts_iconst C dX3_stepBack_53 1 rfl ?_
    refine ts_isub C dX3_stepBack_54 ?_
    refine tpX3_2 C q_338 dX3_stepBack_55 (fun M8 => ?_)
    exact ts_sub [] rfl (H58 _)
def wX7_follows_L7 (q : Nat)  (Q : Int → ts_M → Prop) (k7 : Int → ts_M → Prop) (y2 : Int) (M : ts_M) : Prop :=
  (wJ0_length_8abf5 q (fun r4 M3 => ((ts_w r4 ≤ ts_w y2 → Q 1 M3) ∧ (¬ (ts_w r4 ≤ ts_w y2) → (wJ0_charAt_5068e q y2 (fun r6 M5 => (wX7_takePart r6 (fun r8 M7 => ((¬ (ts_w r8 = 0) → (∀ x9 : Int, x9 = y2 + 1 → k7 x9 M7)) ∧ (ts_w r8 = 0 → Q 0 M7))) M5)) M3)))) M)
def wX7_follows (q : Nat) (Q : Int → ts_M → Prop) (M : ts_M) : Prop :=
  (∀ M1, M1 = ts_si M 160 6 0 → (∀ x2 : Int, x2 = 0 → ∃ n, ts_lp1 (wX7_follows_L7 q Q) n x2 M1))
set_option maxRecDepth 100000 in
set_option maxHeartbeats 4000000 in
theorem mX7_follows {l : Launch} {g : ts_W} (hl : l.stackTraces = false) {q : Nat} (hq : q < 13) {Q : Int → ts_M → Prop} {M : ts_M} : wX7_follows q Q M → ts_Con l g yX7_follows cX7_follows 3 (some .boolean) 4 0 0 [.ref (ts_ad g 160), ts_kv g q] M (ts_Ri Q) := by
  intro h0
  refine ts_Con.of hl (by decide) (Nat.le_of_ble_eq_true rfl) ?_
  intro p e s m args below meth c C
  have H7 : ∀ (n : Nat) (y2 : Int) (M : ts_M), ts_lp1 (wX7_follows_L7 q  Q) n y2 M → ts_V p l e (ts_rm 4 0 0) s m args below meth c g 3 0 0 (MQ below (ts_Q g (ts_Ri Q)) args s 0 0 (ts_A g)) 7 [(0, .ref (ts_ad g 160)), (1, ts_kv g q), (2, ts_v y2)] [] M := by
    refine ts_lpr1 (V := fun (y2 : Int) (M : ts_M) => ts_V p l e (ts_rm 4 0 0) s m args below meth c g 3 0 0 (MQ below (ts_Q g (ts_Ri Q)) args s 0 0 (ts_A g)) 7 [(0, .ref (ts_ad g 160)), (1, ts_kv g q), (2, ts_v y2)] [] M) ?_
    intro k7 hk7 y2 M
    unfold wX7_follows_L7
    refine ts_iload_n C dX7_follows_7 rfl 2 rfl ?_
    refine ts_aload_n C dX7_follows_8 rfl 1 rfl ?_
    refine ts_callRi C [] (mJ0_length_8abf5 hl hq) kJ0_length_8abf5 q_1869 (ts_recS C hq) rfl rfl (Nat.le_of_ble_eq_true rfl) ⟨Nat.le_of_ble_eq_true rfl, Nat.le_of_ble_eq_true rfl⟩ ⟨Nat.le_of_ble_eq_true rfl, Nat.le_of_ble_eq_true rfl⟩ dX7_follows_9 (fun r4 M3 => ?_)
    refine ts_cmp_ge C rfl rfl 35 dX7_follows_12 rfl ?_ ?_
    · refine ts_iconst C dX7_follows_35 1 rfl ?_
      exact ts_zretci C (by decide) (Nat.zero_le _) (Nat.zero_le _) dX7_follows_36
    · refine ts_aload_n C dX7_follows_15 rfl 0 rfl ?_
      refine ts_aload_n C dX7_follows_16 rfl 1 rfl ?_
      refine ts_iload_n C dX7_follows_17 rfl 2 rfl ?_
      refine ts_callRi C [ts_v y2] (mJ0_charAt_5068e hl hq) kJ0_charAt_5068e q_1870 (ts_recS C hq) rfl rfl (Nat.le_of_ble_eq_true rfl) ⟨Nat.le_of_ble_eq_true rfl, Nat.le_of_ble_eq_true rfl⟩ ⟨Nat.le_of_ble_eq_true rfl, Nat.le_of_ble_eq_true rfl⟩ dX7_follows_18 (fun r6 M5 => ?_)
      refine ts_callVi C [ts_v r6] (mX7_takePart hl) kX7_takePart q_1871 (by decide) shX7 rfl rfl rfl (Nat.le_of_ble_eq_true rfl) ⟨Nat.le_of_ble_eq_true rfl, Nat.le_of_ble_eq_true rfl⟩ ⟨Nat.le_of_ble_eq_true rfl, Nat.le_of_ble_eq_true rfl⟩ dX7_follows_21 (fun r8 M7 => ?_)
      refine ts_cm0_ne C rfl 29 dX7_follows_24 rfl ?_ ?_
      · refine ts_iinc C dX7_follows_29 2 rfl (by decide) (lv' := fun x9 => [(2, ts_v x9), (0, .ref (ts_ad g 160)), (1, ts_kv g q)]) (fun _ => rfl) (fun x9 => ?_)
        refine ts_goto C 7 dX7_follows_32 rfl ?_
        exact ts_sub [1, 2, 0] rfl (hk7 _ _)
      · refine ts_iconst C dX7_follows_27 0 rfl ?_
        exact ts_zretci C (by decide) (Nat.zero_le _) (Nat.zero_le _) dX7_follows_28
  revert h0
  unfold wX7_follows
  have hl0 : lv_args 0 [.ref (ts_ad g 160), ts_kv g q] = [(0, .ref (ts_ad g 160)), (1, ts_kv g q)] := rfl
  rw [hl0]
  refine ts_aload_n C dX7_follows_0 rfl 0 rfl ?_
  refine ts_iconst C dX7_follows_1 0 rfl ?_
  refine tpX7_6 C q_378 dX7_follows_2 (fun M1 => ?_)
  refine ts_iconst C dX7_follows_5 0 rfl ?_
  refine ts_istore_n C dX7_follows_6 rfl (by decide) (lv' := fun x2 => [(2, ts_v x2), (0, .ref (ts_ad g 160)), (1, ts_kv g q)]) (fun _ => rfl) (fun x2 => ?_)
  rintro ⟨n, hn⟩
  exact ts_sub [1, 2, 0] rfl (H7 n _ _) hn
def wX10_letterAt_B26 (b : Nat)  (Q : Int → ts_M → Prop)  (z0 : Int) (M : ts_M) : Prop :=
  ((0 ≤ ts_w z0 ∧ ts_w z0 < 65536) ∧ Q z0 M)
def wX10_letterAt (b : Nat) (p1 : Int) (Q : Int → ts_M → Prop) (M : ts_M) : Prop :=
  (wX10_rankAt b p1 (fun r2 M1 => (∀ x3 : Int, x3 = r2 → (wX11_isBetween x3 0 4 (fun r5 M4 => ((ts_w r5 = 0 → wX10_letterAt_B26 b Q 32 M4) ∧ (¬ (ts_w r5 = 0) → (wJ0_charAt_5068e 12 x3 (fun r7 M6 => wX10_letterAt_B26 b Q r7 M6) M4)))) M1))) M)
set_option maxRecDepth 100000 in
set_option maxHeartbeats 4000000 in
theorem mX10_letterAt {l : Launch} {g : ts_W} (hl : l.stackTraces = false) {b : Nat} (hb : ts_isS b) {p1 : Int} {Q : Int → ts_M → Prop} {M : ts_M} : wX10_letterAt b p1 Q M → ts_Con l g yX10_letterAt cX10_letterAt 3 (some .char) 4 0 0 [.ref (ts_ad g (b + 9)), ts_v p1] M (ts_Ri Q) := by
  intro h0
  refine ts_Con.of hl (by decide) (Nat.le_of_ble_eq_true rfl) ?_
  intro p e s m args below meth c C
  have H26 : ∀ (z0 : Int) (M : ts_M), wX10_letterAt_B26 b  Q z0 M → ts_V p l e (ts_rm 4 0 0) s m args below meth c g 3 0 0 (MQ below (ts_Q g (ts_Ri Q)) args s 0 0 (ts_A g)) 26 [] [ts_v z0] M := by
    intro  z0 M
    unfold wX10_letterAt_B26
    exact ts_creti C (Nat.zero_le _) (Nat.zero_le _) dX10_letterAt_26
  revert h0
  unfold wX10_letterAt
  have hl0 : lv_args 0 [.ref (ts_ad g (b + 9)), ts_v p1] = [(0, .ref (ts_ad g (b + 9))), (1, ts_v p1)] := rfl
  rw [hl0]
  refine ts_aload_n C dX10_letterAt_0 rfl 0 rfl ?_
  refine ts_iload_n C dX10_letterAt_1 rfl 1 rfl ?_
  refine ts_callVi C [ts_v p1] (mX10_rankAt hl hb) kX10_rankAt q_1006 (ts_lt hb 9 (by decide)) (shX10 hb) rfl rfl rfl (Nat.le_of_ble_eq_true rfl) ⟨Nat.le_of_ble_eq_true rfl, Nat.le_of_ble_eq_true rfl⟩ ⟨Nat.le_of_ble_eq_true rfl, Nat.le_of_ble_eq_true rfl⟩ dX10_letterAt_2 (fun r2 M1 => ?_)
  refine ts_istore_n C dX10_letterAt_5 rfl (by decide) (lv' := fun x3 => [(2, ts_v x3), (0, .ref (ts_ad g (b + 9))), (1, ts_v p1)]) (fun _ => rfl) (fun x3 => ?_)
  refine ts_iload_n C dX10_letterAt_6 rfl 0 rfl ?_
  refine ts_iconst C dX10_letterAt_7 0 rfl ?_
  refine ts_iconst C dX10_letterAt_8 4 rfl ?_
  refine ts_callSNi (host := "TeaspoonSalon") C [ts_v x3, ts_v 0, ts_v 4] (mX11_isBetween hl) kX11_isBetween qn_8 rfl rfl (Nat.le_of_ble_eq_true rfl) ⟨Nat.le_of_ble_eq_true rfl, Nat.le_of_ble_eq_true rfl⟩ ⟨Nat.le_of_ble_eq_true rfl, Nat.le_of_ble_eq_true rfl⟩ dX10_letterAt_9 (fun r5 M4 => ?_)
  refine ts_cm0_eq C rfl 24 dX10_letterAt_12 rfl ?_ ?_
  · refine ts_bipush C dX10_letterAt_24 32 tb_32 ?_
    exact ts_sub [] rfl (H26 _ _)
  · refine ts_ldcS (tx := "mapcj") C 12 (by decide) dX10_letterAt_15 ?_
    refine ts_iload_n C dX10_letterAt_17 rfl 0 rfl ?_
    refine ts_callRi C [ts_v x3] (mJ0_charAt_5068e hl (by decide)) kJ0_charAt_5068e q_1014 (ts_recS C (by decide)) rfl rfl (Nat.le_of_ble_eq_true rfl) ⟨Nat.le_of_ble_eq_true rfl, Nat.le_of_ble_eq_true rfl⟩ ⟨Nat.le_of_ble_eq_true rfl, Nat.le_of_ble_eq_true rfl⟩ dX10_letterAt_18 (fun r7 M6 => ?_)
    refine ts_goto C 26 dX10_letterAt_21 rfl ?_
    exact ts_sub [] rfl (H26 _ _)
def wJ0_indexOf_0f7a4 (q : Nat) (p1 : Int) (Q : Int → ts_M → Prop) (M : ts_M) : Prop :=
  (wJ0_indexOf_7cf53 q p1 0 (fun r2 M1 => Q r2 M1) M)
set_option maxRecDepth 100000 in
set_option maxHeartbeats 4000000 in
theorem mJ0_indexOf_0f7a4 {l : Launch} {g : ts_W} (hl : l.stackTraces = false) {q : Nat} (hq : q < 13) {p1 : Int} {Q : Int → ts_M → Prop} {M : ts_M} : wJ0_indexOf_0f7a4 q p1 Q M → ts_Con l g yJ0_indexOf_0f7a4 cJ0_indexOf_0f7a4 2 (some .int) 3 0 0 [ts_kv g q, ts_v p1] M (ts_Ri Q) := by
  intro h0
  refine ts_Con.of hl (by decide) (Nat.le_of_ble_eq_true rfl) ?_
  intro p e s m args below meth c C
  revert h0
  unfold wJ0_indexOf_0f7a4
  have hl0 : lv_args 0 [ts_kv g q, ts_v p1] = [(0, ts_kv g q), (1, ts_v p1)] := rfl
  rw [hl0]
  refine ts_aload_n C dJ0_indexOf_0f7a4_0 rfl 0 rfl ?_
  refine ts_iload_n C dJ0_indexOf_0f7a4_1 rfl 1 rfl ?_
  refine ts_iconst C dJ0_indexOf_0f7a4_2 0 rfl ?_
  refine ts_callRi C [ts_v p1, ts_v 0] (mJ0_indexOf_7cf53 hl hq) kJ0_indexOf_7cf53 q_1598 (ts_recS C hq) rfl rfl (Nat.le_of_ble_eq_true rfl) ⟨Nat.le_of_ble_eq_true rfl, Nat.le_of_ble_eq_true rfl⟩ ⟨Nat.le_of_ble_eq_true rfl, Nat.le_of_ble_eq_true rfl⟩ dJ0_indexOf_0f7a4_3 (fun r2 M1 => ?_)
  exact ts_ireti C (Nat.zero_le _) (Nat.zero_le _) dJ0_indexOf_0f7a4_6
def wX7_readCommand_L18   (Q : Int → ts_M → Prop) (k18 : Int → Int → Int → Int → ts_M → Prop) (y1 : Int) (y2 : Int) (y4 : Int) (y5 : Int) (M : ts_M) : Prop :=
  ((ts_w y4 ≤ ts_w y5 → (∀ M5, M5 = ts_si M 160 5 y2 → Q 0 M5)) ∧ (¬ (ts_w y4 ≤ ts_w y5) → ((0 ≤ ts_w y5 ∧ ts_w y5 < 12) ∧ (∀ x6 : Int, x6 = ts_w y5 → (∀ M7, M7 = ts_si M 160 5 y1 → ((0 ≤ x6 ∧ x6 < 12) ∧ (wX7_follows x6.toNat (fun r10 M9 => ((ts_w r10 = 0 → (wJ9_max_7cf53 y2 (M9.1 160 5) (fun r12 M11 => (∀ x13 : Int, x13 = r12 → (∀ x14 : Int, x14 = y5 + 1 → k18 y1 x13 y4 x14 M11))) M9)) ∧ (¬ (ts_w r10 = 0) → (wX7_keep x6 (fun M15 => Q 1 M15) M9)))) M7)))))))
def wX7_readCommand (Q : Int → ts_M → Prop) (M : ts_M) : Prop :=
  (∀ x1 : Int, x1 = M.1 160 5 → (∀ x2 : Int, x2 = x1 → (∀ x3 : Int, x3 = 12 → (∀ x4 : Int, x4 = 0 → ∃ n, ts_lp4 (wX7_readCommand_L18 Q) n x1 x2 x3 x4 M))))
set_option maxRecDepth 100000 in
set_option maxHeartbeats 4000000 in
theorem mX7_readCommand {l : Launch} {g : ts_W} (hl : l.stackTraces = false) {Q : Int → ts_M → Prop} {M : ts_M} : wX7_readCommand Q M → ts_Con l g yX7_readCommand cX7_readCommand 7 (some .boolean) 5 0 0 [.ref (ts_ad g 160)] M (ts_Ri Q) := by
  intro h0
  refine ts_Con.of hl (by decide) (Nat.le_of_ble_eq_true rfl) ?_
  intro p e s m args below meth c C
  have H18 : ∀ (n : Nat) (y1 : Int) (y2 : Int) (y4 : Int) (y5 : Int) (M : ts_M), ts_lp4 (wX7_readCommand_L18   Q) n y1 y2 y4 y5 M → ts_V p l e (ts_rm 5 0 0) s m args below meth c g 7 0 0 (MQ below (ts_Q g (ts_Ri Q)) args s 0 0 (ts_A g)) 18 [(0, .ref (ts_ad g 160)), (1, ts_v y1), (2, ts_v y2), (3, .ref (ts_sx g 140)), (4, ts_v y4), (5, ts_v y5)] [] M := by
    refine ts_lpr4 (V := fun (y1 : Int) (y2 : Int) (y4 : Int) (y5 : Int) (M : ts_M) => ts_V p l e (ts_rm 5 0 0) s m args below meth c g 7 0 0 (MQ below (ts_Q g (ts_Ri Q)) args s 0 0 (ts_A g)) 18 [(0, .ref (ts_ad g 160)), (1, ts_v y1), (2, ts_v y2), (3, .ref (ts_sx g 140)), (4, ts_v y4), (5, ts_v y5)] [] M) ?_
    intro k18 hk18 y1 y2 y4 y5 M
    unfold wX7_readCommand_L18
    refine ts_iload C dX7_readCommand_18 5 rfl ?_
    refine ts_iload C dX7_readCommand_20 4 rfl ?_
    refine ts_cmp_ge C rfl rfl 71 dX7_readCommand_22 rfl ?_ ?_
    · refine ts_aload_n C dX7_readCommand_71 rfl 0 rfl ?_
      refine ts_iload_n C dX7_readCommand_72 rfl 2 rfl ?_
      refine tpX7_5 C q_377 dX7_readCommand_73 (fun M5 => ?_)
      refine ts_iconst C dX7_readCommand_76 0 rfl ?_
      exact ts_zretci C (by decide) (Nat.zero_le _) (Nat.zero_le _) dX7_readCommand_77
    · refine ts_aload_n C dX7_readCommand_25 rfl 3 rfl ?_
      refine ts_iload C dX7_readCommand_26 5 rfl ?_
      refine ts_aldALL C dX7_readCommand_28 ?_
      refine ts_astoreq C dX7_readCommand_29 (by decide) (lv' := fun x6 => [(6, ts_cx g x6), (0, .ref (ts_ad g 160)), (1, ts_v y1), (2, ts_v y2), (3, .ref (ts_sx g 140)), (4, ts_v y4), (5, ts_v y5)]) (fun _ => rfl) (fun x6 => ?_)
      refine ts_aload_n C dX7_readCommand_31 rfl 1 rfl ?_
      refine ts_iload_n C dX7_readCommand_32 rfl 2 rfl ?_
      refine tpX7_5 C q_377 dX7_readCommand_33 (fun M7 => ?_)
      refine ts_aload_n C dX7_readCommand_36 rfl 1 rfl ?_
      refine ts_aloadq C dX7_readCommand_37 0 rfl ?_
      refine ts_getForm C qf_1 dX7_readCommand_39 (fun hq8 => ?_)
      refine ts_callVi C [ts_kv g x6.toNat] (mX7_follows hl hq8) kX7_follows q_1865 (by decide) shX7 rfl rfl rfl (Nat.le_of_ble_eq_true rfl) ⟨Nat.le_of_ble_eq_true rfl, Nat.le_of_ble_eq_true rfl⟩ ⟨Nat.le_of_ble_eq_true rfl, Nat.le_of_ble_eq_true rfl⟩ dX7_readCommand_42 (fun r10 M9 => ?_)
      refine ts_cm0_eq C rfl 56 dX7_readCommand_45 rfl ?_ ?_
      · refine ts_iload_n C dX7_readCommand_56 rfl 3 rfl ?_
        refine ts_aload_n C dX7_readCommand_57 rfl 1 rfl ?_
        refine tgX7_5 C q_377 dX7_readCommand_58 ?_
        refine ts_callSi C [ts_v y2, ts_v (M9.1 160 5)] (mJ9_max_7cf53 hl) kJ9_max_7cf53 q_1892 rfl rfl (Nat.le_of_ble_eq_true rfl) ⟨Nat.le_of_ble_eq_true rfl, Nat.le_of_ble_eq_true rfl⟩ ⟨Nat.le_of_ble_eq_true rfl, Nat.le_of_ble_eq_true rfl⟩ dX7_readCommand_61 (fun r12 M11 => ?_)
        refine ts_istore_n C dX7_readCommand_64 rfl (by decide) (lv' := fun x13 => [(2, ts_v x13), (6, ts_cx g x6), (0, .ref (ts_ad g 160)), (1, ts_v y1), (3, .ref (ts_sx g 140)), (4, ts_v y4), (5, ts_v y5)]) (fun _ => rfl) (fun x13 => ?_)
        refine ts_iinc C dX7_readCommand_65 6 rfl (by decide) (lv' := fun x14 => [(5, ts_v x14), (2, ts_v x13), (6, ts_cx g x6), (0, .ref (ts_ad g 160)), (1, ts_v y1), (3, .ref (ts_sx g 140)), (4, ts_v y4)]) (fun _ => rfl) (fun x14 => ?_)
        refine ts_goto C 18 dX7_readCommand_68 rfl ?_
        exact ts_sub [3, 4, 1, 5, 6, 0] rfl (hk18 _ _ _ _ _)
      · refine ts_aload_n C dX7_readCommand_48 rfl 1 rfl ?_
        refine ts_aloadq C dX7_readCommand_49 0 rfl ?_
        refine ts_callVv C [ts_cx g x6] (mX7_keep hl) kX7_keep q_1888 (by decide) shX7 rfl rfl rfl (Nat.le_of_ble_eq_true rfl) ⟨Nat.le_of_ble_eq_true rfl, Nat.le_of_ble_eq_true rfl⟩ ⟨Nat.le_of_ble_eq_true rfl, Nat.le_of_ble_eq_true rfl⟩ dX7_readCommand_51 (fun M15 => ?_)
        refine ts_iconst C dX7_readCommand_54 1 rfl ?_
        exact ts_zretci C (by decide) (Nat.zero_le _) (Nat.zero_le _) dX7_readCommand_55
  revert h0
  unfold wX7_readCommand
  have hl0 : lv_args 0 [.ref (ts_ad g 160)] = [(0, .ref (ts_ad g 160))] := rfl
  rw [hl0]
  refine ts_aload_n C dX7_readCommand_0 rfl 0 rfl ?_
  refine tgX7_5 C q_377 dX7_readCommand_1 ?_
  refine ts_istore_n C dX7_readCommand_4 rfl (by decide) (lv' := fun x1 => [(1, ts_v x1), (0, .ref (ts_ad g 160))]) (fun _ => rfl) (fun x1 => ?_)
  refine ts_iload_n C dX7_readCommand_5 rfl 0 rfl ?_
  refine ts_istore_n C dX7_readCommand_6 rfl (by decide) (lv' := fun x2 => [(2, ts_v x2), (1, ts_v x1), (0, .ref (ts_ad g 160))]) (fun _ => rfl) (fun x2 => ?_)
  refine ts_getALL C qf_0 dX7_readCommand_7 ?_
  refine ts_astore_n C dX7_readCommand_10 rfl (by decide) (lv' := [(3, .ref (ts_sx g 140)), (2, ts_v x2), (1, ts_v x1), (0, .ref (ts_ad g 160))]) rfl ?_
  refine ts_aload_n C dX7_readCommand_11 rfl 0 rfl ?_
  refine ts_alenALL C dX7_readCommand_12 ?_
  refine ts_istore C dX7_readCommand_13 (by decide) (lv' := fun x3 => [(4, ts_v x3), (3, .ref (ts_sx g 140)), (2, ts_v x2), (1, ts_v x1), (0, .ref (ts_ad g 160))]) (fun _ => rfl) (fun x3 => ?_)
  refine ts_iconst C dX7_readCommand_15 0 rfl ?_
  refine ts_istore C dX7_readCommand_16 (by decide) (lv' := fun x4 => [(5, ts_v x4), (4, ts_v x3), (3, .ref (ts_sx g 140)), (2, ts_v x2), (1, ts_v x1), (0, .ref (ts_ad g 160))]) (fun _ => rfl) (fun x4 => ?_)
  rintro ⟨n, hn⟩
  exact ts_sub [5, 4, 3, 2, 1, 0] rfl (H18 n _ _ _ _ _) hn
def wX9_perform_B177 (b : Nat)  (Q : Int → ts_M → Prop)  (z0 : Int) (M : ts_M) : Prop :=
  Q z0 M
def wX9_perform (b : Nat) (p1 : Int) (p2 : Int) (p3 : Int) (p4 : Int) (Q : Int → ts_M → Prop) (M : ts_M) : Prop :=
  ((0 ≤ p1 → ((0 ≤ p1 ∧ p1 < 12) ∧ ((0 ≤ ts_w p1 ∧ ts_w p1 < 12) ∧ ((ts_w (ts_w p1 + 1) = 1 → (wX8_add b p2 p3 (fun r2 M1 => Q r2 M1) M)) ∧ (¬ (ts_w (ts_w p1 + 1) = 1) → ((ts_w (ts_w p1 + 1) = 2 → (wX4_add b p2 (fun r4 M3 => Q r4 M3) M)) ∧ (¬ (ts_w (ts_w p1 + 1) = 2) → ((ts_w (ts_w p1 + 1) = 3 → (∀ M5, M5 = ts_si M (b + 9) 2 p2 → (wX10_put b 0 (fun r7 M6 => Q r7 M6) M5))) ∧ (¬ (ts_w (ts_w p1 + 1) = 3) → ((ts_w (ts_w p1 + 1) = 4 → (∀ M8, M8 = ts_si M (b + 9) 3 p2 → (wX10_put b 1 (fun r10 M9 => Q r10 M9) M8))) ∧ (¬ (ts_w (ts_w p1 + 1) = 4) → ((ts_w (ts_w p1 + 1) = 5 → (wX10_put b 2 (fun r12 M11 => Q r12 M11) M)) ∧ (¬ (ts_w (ts_w p1 + 1) = 5) → ((ts_w (ts_w p1 + 1) = 6 → (wX10_put b 3 (fun r14 M13 => Q r14 M13) M)) ∧ (¬ (ts_w (ts_w p1 + 1) = 6) → ((ts_w (ts_w p1 + 1) = 7 → (wX10_put b 4 (fun r16 M15 => Q r16 M15) M)) ∧ (¬ (ts_w (ts_w p1 + 1) = 7) → ((ts_w (ts_w p1 + 1) = 8 → (wX8_letSpeak b p2 (fun r18 M17 => Q r18 M17) M)) ∧ (¬ (ts_w (ts_w p1 + 1) = 8) → ((ts_w (ts_w p1 + 1) = 9 → (wX9_decide b (fun r20 M19 => ((ts_w r20 = 0 → wX9_perform_B177 b Q 0 M19) ∧ (¬ (ts_w r20 = 0) → wX9_perform_B177 b Q 1 M19))) M)) ∧ (¬ (ts_w (ts_w p1 + 1) = 9) → ((ts_w (ts_w p1 + 1) = 10 → (wX9_spillTea b p2 p3 p4 (fun r22 M21 => Q r22 M21) M)) ∧ (¬ (ts_w (ts_w p1 + 1) = 10) → ((ts_w (ts_w p1 + 1) = 11 → (wX1_cell p2 p3 (fun r24 M23 => (wX1_dry b r24 (fun r26 M25 => Q r26 M25) M23)) M)) ∧ (¬ (ts_w (ts_w p1 + 1) = 11) → ((ts_w (ts_w p1 + 1) = 12 → (wX8_give b p2 p3 (fun r28 M27 => Q r28 M27) M)) ∧ (¬ (ts_w (ts_w p1 + 1) = 12) → Q (-1) M))))))))))))))))))))))))))) ∧ (¬ 0 ≤ p1 → Q (-1) M))
set_option maxRecDepth 100000 in
set_option maxHeartbeats 4000000 in
theorem mX9_perform {l : Launch} {g : ts_W} (hl : l.stackTraces = false) {b : Nat} (hb : ts_isS b) {p1 : Int} {p2 : Int} {p3 : Int} {p4 : Int} {Q : Int → ts_M → Prop} {M : ts_M} : wX9_perform b p1 p2 p3 p4 Q M → ts_Con l g yX9_perform cX9_perform 5 (some .int) 5 0 0 [.ref (ts_ad g b), ts_cx g p1, ts_v p2, ts_v p3, ts_v p4] M (ts_Ri Q) := by
  intro h0
  refine ts_Con.of hl (by decide) (by unfold ts_cx; cases ts_cm g p1 <;> exact Nat.le_of_ble_eq_true rfl) ?_
  intro p e s m args below meth c C
  have H177 : ∀ (z0 : Int) (M : ts_M), wX9_perform_B177 b  Q z0 M → ts_V p l e (ts_rm 5 0 0) s m args below meth c g 5 0 0 (MQ below (ts_Q g (ts_Ri Q)) args s 0 0 (ts_A g)) 177 [] [ts_v z0] M := by
    intro  z0 M
    unfold wX9_perform_B177
    exact ts_ireti C (Nat.zero_le _) (Nat.zero_le _) dX9_perform_177
  revert h0
  unfold wX9_perform
  have hl0 : lv_args 0 [.ref (ts_ad g b), ts_cx g p1, ts_v p2, ts_v p3, ts_v p4] = [(0, .ref (ts_ad g b)), (1, ts_cx g p1), (2, ts_v p2), (3, ts_v p3), (4, ts_v p4)] := (by unfold ts_cx; cases ts_cm g p1 <;> rfl)
  rw [hl0]
  refine ts_aloadq_n C dX9_perform_0 rfl 1 rfl ?_
  refine ts_ifnonnullq C 6 dX9_perform_1 rfl ?_ ?_
  · refine ts_getSM C q_1107 dX9_perform_6 ?_
    refine ts_aloadq_n C dX9_perform_9 rfl 1 rfl ?_
    refine ts_ord C q_1109 (Nat.le_of_ble_eq_true rfl) ⟨Nat.le_of_ble_eq_true rfl, Nat.le_of_ble_eq_true rfl⟩ ⟨Nat.le_of_ble_eq_true rfl, Nat.le_of_ble_eq_true rfl⟩ dX9_perform_10 ?_
    refine ts_ialdSM C dX9_perform_13 ?_
    refine ts_case rfl 1 (fun e0 => ?_) (fun e0 => ?_)
    · refine ts_tabIn C 1 e0 76 dX9_perform_14 (by decide) (by decide) rfl rfl ?_
      refine ts_aload_n C dX9_perform_76 rfl 0 rfl ?_
      refine tgX9_0 hb C q_289 dX9_perform_77 ?_
      refine ts_iload_n C dX9_perform_80 rfl 2 rfl ?_
      refine ts_iload_n C dX9_perform_81 rfl 3 rfl ?_
      refine ts_callVi C [ts_v p2, ts_v p3] (mX8_add hl hb) kX8_add q_1260 (ts_lt hb 1 (by decide)) (shX8 hb) rfl rfl rfl (Nat.le_of_ble_eq_true rfl) ⟨Nat.le_of_ble_eq_true rfl, Nat.le_of_ble_eq_true rfl⟩ ⟨Nat.le_of_ble_eq_true rfl, Nat.le_of_ble_eq_true rfl⟩ dX9_perform_82 (fun r2 M1 => ?_)
      exact ts_ireti C (Nat.zero_le _) (Nat.zero_le _) dX9_perform_85
    · refine ts_case rfl 2 (fun e1 => ?_) (fun e1 => ?_)
      · refine ts_tabIn C 2 e1 86 dX9_perform_14 (by decide) (by decide) rfl rfl ?_
        refine ts_aload_n C dX9_perform_86 rfl 0 rfl ?_
        refine tgX9_1 hb C q_292 dX9_perform_87 ?_
        refine ts_iload_n C dX9_perform_90 rfl 2 rfl ?_
        refine ts_callVi C [ts_v p2] (mX4_add hl hb) kX4_add q_1264 (ts_lt hb 6 (by decide)) (shX4 hb) rfl rfl rfl (Nat.le_of_ble_eq_true rfl) ⟨Nat.le_of_ble_eq_true rfl, Nat.le_of_ble_eq_true rfl⟩ ⟨Nat.le_of_ble_eq_true rfl, Nat.le_of_ble_eq_true rfl⟩ dX9_perform_91 (fun r4 M3 => ?_)
        exact ts_ireti C (Nat.zero_le _) (Nat.zero_le _) dX9_perform_94
      · refine ts_case rfl 3 (fun e2 => ?_) (fun e2 => ?_)
        · refine ts_tabIn C 3 e2 95 dX9_perform_14 (by decide) (by decide) rfl rfl ?_
          refine ts_aload_n C dX9_perform_95 rfl 0 rfl ?_
          refine tgX9_2 hb C q_295 dX9_perform_96 ?_
          refine ts_iload_n C dX9_perform_99 rfl 2 rfl ?_
          refine tpX10_2 hb C q_251 dX9_perform_100 (fun M5 => ?_)
          refine ts_aload_n C dX9_perform_103 rfl 0 rfl ?_
          refine tgX9_2 hb C q_295 dX9_perform_104 ?_
          refine ts_iconst C dX9_perform_107 0 rfl ?_
          refine ts_callVi C [ts_v 0] (mX10_put hl hb) kX10_put q_1272 (ts_lt hb 9 (by decide)) (shX10 hb) rfl rfl rfl (Nat.le_of_ble_eq_true rfl) ⟨Nat.le_of_ble_eq_true rfl, Nat.le_of_ble_eq_true rfl⟩ ⟨Nat.le_of_ble_eq_true rfl, Nat.le_of_ble_eq_true rfl⟩ dX9_perform_108 (fun r7 M6 => ?_)
          exact ts_ireti C (Nat.zero_le _) (Nat.zero_le _) dX9_perform_111
        · refine ts_case rfl 4 (fun e3 => ?_) (fun e3 => ?_)
          · refine ts_tabIn C 4 e3 112 dX9_perform_14 (by decide) (by decide) rfl rfl ?_
            refine ts_aload_n C dX9_perform_112 rfl 0 rfl ?_
            refine tgX9_2 hb C q_295 dX9_perform_113 ?_
            refine ts_iload_n C dX9_perform_116 rfl 2 rfl ?_
            refine tpX10_3 hb C q_254 dX9_perform_117 (fun M8 => ?_)
            refine ts_aload_n C dX9_perform_120 rfl 0 rfl ?_
            refine tgX9_2 hb C q_295 dX9_perform_121 ?_
            refine ts_iconst C dX9_perform_124 1 rfl ?_
            refine ts_callVi C [ts_v 1] (mX10_put hl hb) kX10_put q_1272 (ts_lt hb 9 (by decide)) (shX10 hb) rfl rfl rfl (Nat.le_of_ble_eq_true rfl) ⟨Nat.le_of_ble_eq_true rfl, Nat.le_of_ble_eq_true rfl⟩ ⟨Nat.le_of_ble_eq_true rfl, Nat.le_of_ble_eq_true rfl⟩ dX9_perform_125 (fun r10 M9 => ?_)
            exact ts_ireti C (Nat.zero_le _) (Nat.zero_le _) dX9_perform_128
          · refine ts_case rfl 5 (fun e4 => ?_) (fun e4 => ?_)
            · refine ts_tabIn C 5 e4 129 dX9_perform_14 (by decide) (by decide) rfl rfl ?_
              refine ts_aload_n C dX9_perform_129 rfl 0 rfl ?_
              refine tgX9_2 hb C q_295 dX9_perform_130 ?_
              refine ts_iconst C dX9_perform_133 2 rfl ?_
              refine ts_callVi C [ts_v 2] (mX10_put hl hb) kX10_put q_1272 (ts_lt hb 9 (by decide)) (shX10 hb) rfl rfl rfl (Nat.le_of_ble_eq_true rfl) ⟨Nat.le_of_ble_eq_true rfl, Nat.le_of_ble_eq_true rfl⟩ ⟨Nat.le_of_ble_eq_true rfl, Nat.le_of_ble_eq_true rfl⟩ dX9_perform_134 (fun r12 M11 => ?_)
              exact ts_ireti C (Nat.zero_le _) (Nat.zero_le _) dX9_perform_137
            · refine ts_case rfl 6 (fun e5 => ?_) (fun e5 => ?_)
              · refine ts_tabIn C 6 e5 138 dX9_perform_14 (by decide) (by decide) rfl rfl ?_
                refine ts_aload_n C dX9_perform_138 rfl 0 rfl ?_
                refine tgX9_2 hb C q_295 dX9_perform_139 ?_
                refine ts_iconst C dX9_perform_142 3 rfl ?_
                refine ts_callVi C [ts_v 3] (mX10_put hl hb) kX10_put q_1272 (ts_lt hb 9 (by decide)) (shX10 hb) rfl rfl rfl (Nat.le_of_ble_eq_true rfl) ⟨Nat.le_of_ble_eq_true rfl, Nat.le_of_ble_eq_true rfl⟩ ⟨Nat.le_of_ble_eq_true rfl, Nat.le_of_ble_eq_true rfl⟩ dX9_perform_143 (fun r14 M13 => ?_)
                exact ts_ireti C (Nat.zero_le _) (Nat.zero_le _) dX9_perform_146
              · refine ts_case rfl 7 (fun e6 => ?_) (fun e6 => ?_)
                · refine ts_tabIn C 7 e6 147 dX9_perform_14 (by decide) (by decide) rfl rfl ?_
                  refine ts_aload_n C dX9_perform_147 rfl 0 rfl ?_
                  refine tgX9_2 hb C q_295 dX9_perform_148 ?_
                  refine ts_iconst C dX9_perform_151 4 rfl ?_
                  refine ts_callVi C [ts_v 4] (mX10_put hl hb) kX10_put q_1272 (ts_lt hb 9 (by decide)) (shX10 hb) rfl rfl rfl (Nat.le_of_ble_eq_true rfl) ⟨Nat.le_of_ble_eq_true rfl, Nat.le_of_ble_eq_true rfl⟩ ⟨Nat.le_of_ble_eq_true rfl, Nat.le_of_ble_eq_true rfl⟩ dX9_perform_152 (fun r16 M15 => ?_)
                  exact ts_ireti C (Nat.zero_le _) (Nat.zero_le _) dX9_perform_155
                · refine ts_case rfl 8 (fun e7 => ?_) (fun e7 => ?_)
                  · refine ts_tabIn C 8 e7 156 dX9_perform_14 (by decide) (by decide) rfl rfl ?_
                    refine ts_aload_n C dX9_perform_156 rfl 0 rfl ?_
                    refine tgX9_0 hb C q_289 dX9_perform_157 ?_
                    refine ts_iload_n C dX9_perform_160 rfl 2 rfl ?_
                    refine ts_callVi C [ts_v p2] (mX8_letSpeak hl hb) kX8_letSpeak q_1276 (ts_lt hb 1 (by decide)) (shX8 hb) rfl rfl rfl (Nat.le_of_ble_eq_true rfl) ⟨Nat.le_of_ble_eq_true rfl, Nat.le_of_ble_eq_true rfl⟩ ⟨Nat.le_of_ble_eq_true rfl, Nat.le_of_ble_eq_true rfl⟩ dX9_perform_161 (fun r18 M17 => ?_)
                    exact ts_ireti C (Nat.zero_le _) (Nat.zero_le _) dX9_perform_164
                  · refine ts_case rfl 9 (fun e8 => ?_) (fun e8 => ?_)
                    · refine ts_tabIn C 9 e8 165 dX9_perform_14 (by decide) (by decide) rfl rfl ?_
                      refine ts_aload_n C dX9_perform_165 rfl 0 rfl ?_
                      refine ts_callVi C [] (mX9_decide hl hb) kX9_decide q_1281 (ts_lt0 hb) (shX9 hb) rfl rfl rfl (Nat.le_of_ble_eq_true rfl) ⟨Nat.le_of_ble_eq_true rfl, Nat.le_of_ble_eq_true rfl⟩ ⟨Nat.le_of_ble_eq_true rfl, Nat.le_of_ble_eq_true rfl⟩ dX9_perform_166 (fun r20 M19 => ?_)
                      refine ts_cm0_eq C rfl 176 dX9_perform_169 rfl ?_ ?_
                      · refine ts_iconst C dX9_perform_176 0 rfl ?_
                        exact ts_sub [] rfl (H177 _ _)
                      · refine ts_iconst C dX9_perform_172 1 rfl ?_
                        refine ts_goto C 177 dX9_perform_173 rfl ?_
                        exact ts_sub [] rfl (H177 _ _)
                    · refine ts_case rfl 10 (fun e9 => ?_) (fun e9 => ?_)
                      · refine ts_tabIn C 10 e9 178 dX9_perform_14 (by decide) (by decide) rfl rfl ?_
                        refine ts_aload_n C dX9_perform_178 rfl 0 rfl ?_
                        refine ts_iload_n C dX9_perform_179 rfl 2 rfl ?_
                        refine ts_iload_n C dX9_perform_180 rfl 3 rfl ?_
                        refine ts_iload C dX9_perform_181 4 rfl ?_
                        refine ts_callVi C [ts_v p2, ts_v p3, ts_v p4] (mX9_spillTea hl hb) kX9_spillTea q_1369 (ts_lt0 hb) (shX9 hb) rfl rfl rfl (Nat.le_of_ble_eq_true rfl) ⟨Nat.le_of_ble_eq_true rfl, Nat.le_of_ble_eq_true rfl⟩ ⟨Nat.le_of_ble_eq_true rfl, Nat.le_of_ble_eq_true rfl⟩ dX9_perform_183 (fun r22 M21 => ?_)
                        exact ts_ireti C (Nat.zero_le _) (Nat.zero_le _) dX9_perform_186
                      · refine ts_case rfl 11 (fun e10 => ?_) (fun e10 => ?_)
                        · refine ts_tabIn C 11 e10 187 dX9_perform_14 (by decide) (by decide) rfl rfl ?_
                          refine ts_aload_n C dX9_perform_187 rfl 0 rfl ?_
                          refine tgX9_3 hb C q_297 dX9_perform_188 ?_
                          refine ts_iload_n C dX9_perform_191 rfl 2 rfl ?_
                          refine ts_iload_n C dX9_perform_192 rfl 3 rfl ?_
                          refine ts_callSl C [ts_v p2, ts_v p3] (mX1_cell hl) kX1_cell q_1385 rfl rfl (Nat.le_of_ble_eq_true rfl) ⟨Nat.le_of_ble_eq_true rfl, Nat.le_of_ble_eq_true rfl⟩ ⟨Nat.le_of_ble_eq_true rfl, Nat.le_of_ble_eq_true rfl⟩ dX9_perform_193 (fun r24 M23 => ?_)
                          refine ts_callVi C [.long r24] (mX1_dry hl hb) kX1_dry q_1386 (ts_lt hb 11 (by decide)) (shX1 hb) rfl rfl rfl (Nat.le_of_ble_eq_true rfl) ⟨Nat.le_of_ble_eq_true rfl, Nat.le_of_ble_eq_true rfl⟩ ⟨Nat.le_of_ble_eq_true rfl, Nat.le_of_ble_eq_true rfl⟩ dX9_perform_196 (fun r26 M25 => ?_)
                          exact ts_ireti C (Nat.zero_le _) (Nat.zero_le _) dX9_perform_199
                        · refine ts_case rfl 12 (fun e11 => ?_) (fun e11 => ?_)
                          · refine ts_tabIn C 12 e11 200 dX9_perform_14 (by decide) (by decide) rfl rfl ?_
                            refine ts_aload_n C dX9_perform_200 rfl 0 rfl ?_
                            refine tgX9_0 hb C q_289 dX9_perform_201 ?_
                            refine ts_iload_n C dX9_perform_204 rfl 2 rfl ?_
                            refine ts_iload_n C dX9_perform_205 rfl 3 rfl ?_
                            refine ts_callVi C [ts_v p2, ts_v p3] (mX8_give hl hb) kX8_give q_1390 (ts_lt hb 1 (by decide)) (shX8 hb) rfl rfl rfl (Nat.le_of_ble_eq_true rfl) ⟨Nat.le_of_ble_eq_true rfl, Nat.le_of_ble_eq_true rfl⟩ ⟨Nat.le_of_ble_eq_true rfl, Nat.le_of_ble_eq_true rfl⟩ dX9_perform_206 (fun r28 M27 => ?_)
                            exact ts_ireti C (Nat.zero_le _) (Nat.zero_le _) dX9_perform_209
                          · refine ts_tabOut C 210 dX9_perform_14 (by omega) rfl ?_
                            refine ts_iconst C dX9_perform_210 (-1) rfl ?_
                            exact ts_ireti C (Nat.zero_le _) (Nat.zero_le _) dX9_perform_211
  · refine ts_iconst C dX9_perform_4 (-1) rfl ?_
    exact ts_ireti C (Nat.zero_le _) (Nat.zero_le _) dX9_perform_5
def wX11_firstFailureOnDraft_L13   (Q : Int → ts_M → Prop) (k13 : Int → ts_M → Prop) (y1 : Int) (M : ts_M) : Prop :=
  ((ts_w (M.1 160 4) ≤ ts_w y1 → Q (-1) M) ∧ (¬ (ts_w (M.1 160 4) ≤ ts_w y1) → (wX7_commandAt y1 (fun r4 M3 => (∀ x5 : Int, x5 = r4 → (wX7_argumentAt y1 0 (fun r7 M6 => (∀ x8 : Int, x8 = r7 → (wX7_argumentAt y1 1 (fun r10 M9 => (∀ x11 : Int, x11 = r10 → (wX7_argumentAt y1 2 (fun r13 M12 => (∀ x14 : Int, x14 = r13 → (wX9_refusalOf 14 x5 x8 x11 x14 (fun r16 M15 => ((0 ≤ r16 ∧ r16 < 6) ∧ (r16 = 0 → (wX9_perform 14 x5 x8 x11 x14 (fun r18 M17 => (∀ x19 : Int, x19 = y1 + 1 → k13 x19 M17)) M15)) ∧ (¬ r16 = 0 → Q y1 M15))) M12))) M9))) M6))) M3))) M)))
def wX11_firstFailureOnDraft (Q : Int → ts_M → Prop) (M : ts_M) : Prop :=
  (wX9_copyFrom 14 0 (fun M1 => (∀ x2 : Int, x2 = 0 → ∃ n, ts_lp1 (wX11_firstFailureOnDraft_L13 Q) n x2 M1)) M)
set_option maxRecDepth 100000 in
set_option maxHeartbeats 4000000 in
theorem mX11_firstFailureOnDraft {l : Launch} {g : ts_W} (hl : l.stackTraces = false) {Q : Int → ts_M → Prop} {M : ts_M} : wX11_firstFailureOnDraft Q M → ts_Con l g yX11_firstFailureOnDraft cX11_firstFailureOnDraft 6 (some .int) 6 0 0 [.ref (ts_ad g 154)] M (ts_Ri Q) := by
  intro h0
  refine ts_Con.of hl (by decide) (Nat.le_of_ble_eq_true rfl) ?_
  intro p e s m args below meth c C
  have H13 : ∀ (n : Nat) (y1 : Int) (M : ts_M), ts_lp1 (wX11_firstFailureOnDraft_L13   Q) n y1 M → ts_V p l e (ts_rm 6 0 0) s m args below meth c g 6 0 0 (MQ below (ts_Q g (ts_Ri Q)) args s 0 0 (ts_A g)) 13 [(0, .ref (ts_ad g 154)), (1, ts_v y1)] [] M := by
    refine ts_lpr1 (V := fun (y1 : Int) (M : ts_M) => ts_V p l e (ts_rm 6 0 0) s m args below meth c g 6 0 0 (MQ below (ts_Q g (ts_Ri Q)) args s 0 0 (ts_A g)) 13 [(0, .ref (ts_ad g 154)), (1, ts_v y1)] [] M) ?_
    intro k13 hk13 y1 M
    unfold wX11_firstFailureOnDraft_L13
    refine ts_iload_n C dX11_firstFailureOnDraft_13 rfl 1 rfl ?_
    refine ts_aload_n C dX11_firstFailureOnDraft_14 rfl 0 rfl ?_
    refine tgX11_5 C q_433 dX11_firstFailureOnDraft_15 ?_
    refine tgX7_4 C q_376 dX11_firstFailureOnDraft_18 ?_
    refine ts_cmp_ge C rfl rfl 106 dX11_firstFailureOnDraft_21 rfl ?_ ?_
    · refine ts_iconst C dX11_firstFailureOnDraft_106 (-1) rfl ?_
      exact ts_ireti C (Nat.zero_le _) (Nat.zero_le _) dX11_firstFailureOnDraft_107
    · refine ts_aload_n C dX11_firstFailureOnDraft_24 rfl 0 rfl ?_
      refine tgX11_5 C q_433 dX11_firstFailureOnDraft_25 ?_
      refine ts_iload_n C dX11_firstFailureOnDraft_28 rfl 1 rfl ?_
      refine ts_callVn C [ts_v y1] (mX7_commandAt hl) kX7_commandAt q_1902 (by decide) shX7 rfl rfl rfl (Nat.le_of_ble_eq_true rfl) ⟨Nat.le_of_ble_eq_true rfl, Nat.le_of_ble_eq_true rfl⟩ ⟨Nat.le_of_ble_eq_true rfl, Nat.le_of_ble_eq_true rfl⟩ dX11_firstFailureOnDraft_29 (fun r4 M3 => ?_)
      refine ts_astoreq_n C dX11_firstFailureOnDraft_32 rfl (by decide) (lv' := fun x5 => [(2, ts_cx g x5), (0, .ref (ts_ad g 154)), (1, ts_v y1)]) (fun _ => rfl) (fun x5 => ?_)
      refine ts_aload_n C dX11_firstFailureOnDraft_33 rfl 1 rfl ?_
      refine tgX11_5 C q_433 dX11_firstFailureOnDraft_34 ?_
      refine ts_iload_n C dX11_firstFailureOnDraft_37 rfl 2 rfl ?_
      refine ts_iconst C dX11_firstFailureOnDraft_38 0 rfl ?_
      refine ts_callVi C [ts_v y1, ts_v 0] (mX7_argumentAt hl) kX7_argumentAt q_1906 (by decide) shX7 rfl rfl rfl (Nat.le_of_ble_eq_true rfl) ⟨Nat.le_of_ble_eq_true rfl, Nat.le_of_ble_eq_true rfl⟩ ⟨Nat.le_of_ble_eq_true rfl, Nat.le_of_ble_eq_true rfl⟩ dX11_firstFailureOnDraft_39 (fun r7 M6 => ?_)
      refine ts_istore_n C dX11_firstFailureOnDraft_42 rfl (by decide) (lv' := fun x8 => [(3, ts_v x8), (2, ts_cx g x5), (0, .ref (ts_ad g 154)), (1, ts_v y1)]) (fun _ => by unfold ts_cx; cases ts_cm g x5 <;> rfl) (fun x8 => ?_)
      refine ts_aload_n C dX11_firstFailureOnDraft_43 rfl 2 rfl ?_
      refine tgX11_5 C q_433 dX11_firstFailureOnDraft_44 ?_
      refine ts_iload_n C dX11_firstFailureOnDraft_47 rfl 3 rfl ?_
      refine ts_iconst C dX11_firstFailureOnDraft_48 1 rfl ?_
      refine ts_callVi C [ts_v y1, ts_v 1] (mX7_argumentAt hl) kX7_argumentAt q_1906 (by decide) shX7 rfl rfl rfl (Nat.le_of_ble_eq_true rfl) ⟨Nat.le_of_ble_eq_true rfl, Nat.le_of_ble_eq_true rfl⟩ ⟨Nat.le_of_ble_eq_true rfl, Nat.le_of_ble_eq_true rfl⟩ dX11_firstFailureOnDraft_49 (fun r10 M9 => ?_)
      refine ts_istore C dX11_firstFailureOnDraft_52 (by decide) (lv' := fun x11 => [(4, ts_v x11), (3, ts_v x8), (2, ts_cx g x5), (0, .ref (ts_ad g 154)), (1, ts_v y1)]) (fun _ => rfl) (fun x11 => ?_)
      refine ts_aload_n C dX11_firstFailureOnDraft_54 rfl 3 rfl ?_
      refine tgX11_5 C q_433 dX11_firstFailureOnDraft_55 ?_
      refine ts_iload_n C dX11_firstFailureOnDraft_58 rfl 4 rfl ?_
      refine ts_iconst C dX11_firstFailureOnDraft_59 2 rfl ?_
      refine ts_callVi C [ts_v y1, ts_v 2] (mX7_argumentAt hl) kX7_argumentAt q_1906 (by decide) shX7 rfl rfl rfl (Nat.le_of_ble_eq_true rfl) ⟨Nat.le_of_ble_eq_true rfl, Nat.le_of_ble_eq_true rfl⟩ ⟨Nat.le_of_ble_eq_true rfl, Nat.le_of_ble_eq_true rfl⟩ dX11_firstFailureOnDraft_60 (fun r13 M12 => ?_)
      refine ts_istore C dX11_firstFailureOnDraft_63 (by decide) (lv' := fun x14 => [(5, ts_v x14), (4, ts_v x11), (3, ts_v x8), (2, ts_cx g x5), (0, .ref (ts_ad g 154)), (1, ts_v y1)]) (fun _ => rfl) (fun x14 => ?_)
      refine ts_aload_n C dX11_firstFailureOnDraft_65 rfl 4 rfl ?_
      refine tgX11_1 C q_429 dX11_firstFailureOnDraft_66 ?_
      refine ts_aloadq_n C dX11_firstFailureOnDraft_69 rfl 3 rfl ?_
      refine ts_iload_n C dX11_firstFailureOnDraft_70 rfl 2 rfl ?_
      refine ts_iload C dX11_firstFailureOnDraft_71 1 rfl ?_
      refine ts_iload C dX11_firstFailureOnDraft_73 0 rfl ?_
      refine ts_callVr C [ts_cx g x5, ts_v x8, ts_v x11, ts_v x14] (mX9_refusalOf hl ts_iS14) kX9_refusalOf q_1101 (ts_lt0 ts_iS14) (shX9 ts_iS14) rfl rfl rfl (Nat.le_of_ble_eq_true rfl) ⟨Nat.le_of_ble_eq_true rfl, Nat.le_of_ble_eq_true rfl⟩ ⟨Nat.le_of_ble_eq_true rfl, Nat.le_of_ble_eq_true rfl⟩ dX11_firstFailureOnDraft_75 (fun r16 M15 => ?_)
      refine ts_getR C 0 (by decide) q_1910 dX11_firstFailureOnDraft_78 ?_
      refine ts_acmp_eq C (by decide) 86 dX11_firstFailureOnDraft_81 rfl ?_ ?_
      · refine ts_aload_n C dX11_firstFailureOnDraft_86 rfl 4 rfl ?_
        refine tgX11_1 C q_429 dX11_firstFailureOnDraft_87 ?_
        refine ts_aloadq_n C dX11_firstFailureOnDraft_90 rfl 3 rfl ?_
        refine ts_iload_n C dX11_firstFailureOnDraft_91 rfl 2 rfl ?_
        refine ts_iload C dX11_firstFailureOnDraft_92 1 rfl ?_
        refine ts_iload C dX11_firstFailureOnDraft_94 0 rfl ?_
        refine ts_callVi C [ts_cx g x5, ts_v x8, ts_v x11, ts_v x14] (mX9_perform hl ts_iS14) kX9_perform q_1256 (ts_lt0 ts_iS14) (shX9 ts_iS14) rfl rfl rfl (Nat.le_of_ble_eq_true rfl) ⟨Nat.le_of_ble_eq_true rfl, Nat.le_of_ble_eq_true rfl⟩ ⟨Nat.le_of_ble_eq_true rfl, Nat.le_of_ble_eq_true rfl⟩ dX11_firstFailureOnDraft_96 (fun r18 M17 => ?_)
        refine ts_pop C dX11_firstFailureOnDraft_99 rfl ?_
        refine ts_iinc C dX11_firstFailureOnDraft_100 5 rfl (by decide) (lv' := fun x19 => [(1, ts_v x19), (5, ts_v x14), (4, ts_v x11), (3, ts_v x8), (2, ts_cx g x5), (0, .ref (ts_ad g 154))]) (fun _ => rfl) (fun x19 => ?_)
        refine ts_goto C 13 dX11_firstFailureOnDraft_103 rfl ?_
        exact ts_sub [5, 0] rfl (hk13 _ _)
      · refine ts_iload_n C dX11_firstFailureOnDraft_84 rfl 5 rfl ?_
        exact ts_ireti C (Nat.zero_le _) (Nat.zero_le _) dX11_firstFailureOnDraft_85
  revert h0
  unfold wX11_firstFailureOnDraft
  have hl0 : lv_args 0 [.ref (ts_ad g 154)] = [(0, .ref (ts_ad g 154))] := rfl
  rw [hl0]
  refine ts_aload_n C dX11_firstFailureOnDraft_0 rfl 0 rfl ?_
  refine tgX11_1 C q_429 dX11_firstFailureOnDraft_1 ?_
  refine ts_aload_n C dX11_firstFailureOnDraft_4 rfl 0 rfl ?_
  refine tgX11_0 C q_428 dX11_firstFailureOnDraft_5 ?_
  refine ts_callVv C [.ref (ts_ad g 0)] (mX9_copyFrom hl ts_iS14 ts_iS0) kX9_copyFrom q_1062 (ts_lt0 ts_iS14) (shX9 ts_iS14) rfl rfl rfl (Nat.le_of_ble_eq_true rfl) ⟨Nat.le_of_ble_eq_true rfl, Nat.le_of_ble_eq_true rfl⟩ ⟨Nat.le_of_ble_eq_true rfl, Nat.le_of_ble_eq_true rfl⟩ dX11_firstFailureOnDraft_8 (fun M1 => ?_)
  refine ts_iconst C dX11_firstFailureOnDraft_11 0 rfl ?_
  refine ts_istore_n C dX11_firstFailureOnDraft_12 rfl (by decide) (lv' := fun x2 => [(1, ts_v x2), (0, .ref (ts_ad g 154))]) (fun _ => rfl) (fun x2 => ?_)
  rintro ⟨n, hn⟩
  exact ts_sub [1, 0] rfl (H13 n _ _) hn
def wX7_readAll_L12   (Q : Int → ts_M → Prop) (k12 : Int → ts_M → Prop) (y1 : Int) (M : ts_M) : Prop :=
  ((12 < ts_w y1 → Q (M.1 160 5) M) ∧ (¬ (12 < ts_w y1) → (wX7_readCommand  (fun r5 M4 => ((¬ (ts_w r5 = 0) → ((ts_w (M4.1 160 5) < ts_w (M4.1 160 3) → (wX7_take 59 (fun r7 M6 => ((¬ (ts_w r7 = 0) → (∀ x8 : Int, x8 = y1 + 1 → k12 x8 M6)) ∧ (ts_w r7 = 0 → Q (M6.1 160 5) M6))) M4)) ∧ (¬ (ts_w (M4.1 160 5) < ts_w (M4.1 160 3)) → Q (-1) M4))) ∧ (ts_w r5 = 0 → Q (M4.1 160 5) M4))) M)))
def wX7_readAll (Q : Int → ts_M → Prop) (M : ts_M) : Prop :=
  (∀ M1, M1 = ts_si M 160 4 0 → (∀ M2, M2 = ts_si M1 160 5 0 → (∀ x3 : Int, x3 = 0 → ∃ n, ts_lp1 (wX7_readAll_L12 Q) n x3 M2)))
set_option maxRecDepth 100000 in
set_option maxHeartbeats 4000000 in
theorem mX7_readAll {l : Launch} {g : ts_W} (hl : l.stackTraces = false) {Q : Int → ts_M → Prop} {M : ts_M} : wX7_readAll Q M → ts_Con l g yX7_readAll cX7_readAll 2 (some .int) 6 0 0 [.ref (ts_ad g 160)] M (ts_Ri Q) := by
  intro h0
  refine ts_Con.of hl (by decide) (Nat.le_of_ble_eq_true rfl) ?_
  intro p e s m args below meth c C
  have H12 : ∀ (n : Nat) (y1 : Int) (M : ts_M), ts_lp1 (wX7_readAll_L12   Q) n y1 M → ts_V p l e (ts_rm 6 0 0) s m args below meth c g 2 0 0 (MQ below (ts_Q g (ts_Ri Q)) args s 0 0 (ts_A g)) 12 [(0, .ref (ts_ad g 160)), (1, ts_v y1)] [] M := by
    refine ts_lpr1 (V := fun (y1 : Int) (M : ts_M) => ts_V p l e (ts_rm 6 0 0) s m args below meth c g 2 0 0 (MQ below (ts_Q g (ts_Ri Q)) args s 0 0 (ts_A g)) 12 [(0, .ref (ts_ad g 160)), (1, ts_v y1)] [] M) ?_
    intro k12 hk12 y1 M
    unfold wX7_readAll_L12
    refine ts_iload_n C dX7_readAll_12 rfl 1 rfl ?_
    refine ts_bipush C dX7_readAll_13 12 tb_12 ?_
    refine ts_cmp_gt C rfl tw_12 63 dX7_readAll_15 rfl ?_ ?_
    · refine ts_aload_n C dX7_readAll_63 rfl 0 rfl ?_
      refine tgX7_5 C q_377 dX7_readAll_64 ?_
      exact ts_ireti C (Nat.zero_le _) (Nat.zero_le _) dX7_readAll_67
    · refine ts_aload_n C dX7_readAll_18 rfl 0 rfl ?_
      refine ts_callVi C [] (mX7_readCommand hl) kX7_readCommand q_1859 (by decide) shX7 rfl rfl rfl (Nat.le_of_ble_eq_true rfl) ⟨Nat.le_of_ble_eq_true rfl, Nat.le_of_ble_eq_true rfl⟩ ⟨Nat.le_of_ble_eq_true rfl, Nat.le_of_ble_eq_true rfl⟩ dX7_readAll_19 (fun r5 M4 => ?_)
      refine ts_cm0_ne C rfl 30 dX7_readAll_22 rfl ?_ ?_
      · refine ts_aload_n C dX7_readAll_30 rfl 0 rfl ?_
        refine tgX7_5 C q_377 dX7_readAll_31 ?_
        refine ts_aload_n C dX7_readAll_34 rfl 0 rfl ?_
        refine tgX7_3 C q_374 dX7_readAll_35 ?_
        refine ts_cmp_lt C rfl rfl 43 dX7_readAll_38 rfl ?_ ?_
        · refine ts_aload_n C dX7_readAll_43 rfl 0 rfl ?_
          refine ts_bipush C dX7_readAll_44 59 tb_59 ?_
          refine ts_callVi C [ts_v 59] (mX7_take hl) kX7_take q_1884 (by decide) shX7 rfl rfl rfl (Nat.le_of_ble_eq_true rfl) ⟨Nat.le_of_ble_eq_true rfl, Nat.le_of_ble_eq_true rfl⟩ ⟨Nat.le_of_ble_eq_true rfl, Nat.le_of_ble_eq_true rfl⟩ dX7_readAll_46 (fun r7 M6 => ?_)
          refine ts_cm0_ne C rfl 57 dX7_readAll_49 rfl ?_ ?_
          · refine ts_iinc C dX7_readAll_57 1 rfl (by decide) (lv' := fun x8 => [(1, ts_v x8), (0, .ref (ts_ad g 160))]) (fun _ => rfl) (fun x8 => ?_)
            refine ts_goto C 12 dX7_readAll_60 rfl ?_
            exact ts_sub [1, 0] rfl (hk12 _ _)
          · refine ts_aload_n C dX7_readAll_52 rfl 0 rfl ?_
            refine tgX7_5 C q_377 dX7_readAll_53 ?_
            exact ts_ireti C (Nat.zero_le _) (Nat.zero_le _) dX7_readAll_56
        · refine ts_iconst C dX7_readAll_41 (-1) rfl ?_
          exact ts_ireti C (Nat.zero_le _) (Nat.zero_le _) dX7_readAll_42
      · refine ts_aload_n C dX7_readAll_25 rfl 0 rfl ?_
        refine tgX7_5 C q_377 dX7_readAll_26 ?_
        exact ts_ireti C (Nat.zero_le _) (Nat.zero_le _) dX7_readAll_29
  revert h0
  unfold wX7_readAll
  have hl0 : lv_args 0 [.ref (ts_ad g 160)] = [(0, .ref (ts_ad g 160))] := rfl
  rw [hl0]
  refine ts_aload_n C dX7_readAll_0 rfl 0 rfl ?_
  refine ts_iconst C dX7_readAll_1 0 rfl ?_
  refine tpX7_4 C q_375 dX7_readAll_2 (fun M1 => ?_)
  refine ts_aload_n C dX7_readAll_5 rfl 0 rfl ?_
  refine ts_iconst C dX7_readAll_6 0 rfl ?_
  refine tpX7_5 C q_377 dX7_readAll_7 (fun M2 => ?_)
  refine ts_iconst C dX7_readAll_10 0 rfl ?_
  refine ts_istore_n C dX7_readAll_11 rfl (by decide) (lv' := fun x3 => [(1, ts_v x3), (0, .ref (ts_ad g 160))]) (fun _ => rfl) (fun x3 => ?_)
  rintro ⟨n, hn⟩
  exact ts_sub [1, 0] rfl (H12 n _ _) hn
