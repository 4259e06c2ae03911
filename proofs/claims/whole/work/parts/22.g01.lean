def wX11_spoonCount (Q : Int → ts_M → Prop) (M : ts_M) : Prop :=
  Q (M.1 1 4) M
set_option maxRecDepth 100000 in
set_option maxHeartbeats 4000000 in
theorem mX11_spoonCount {l : Launch} {g : ts_W} (hl : l.stackTraces = false) {Q : Int → ts_M → Prop} {M : ts_M} : wX11_spoonCount Q M → ts_Con l g yX11_spoonCount cX11_spoonCount 1 (some .int) 0 0 0 [.ref (ts_ad g 154)] M (ts_Ri Q) := by
  intro h0
  refine ts_Con.of hl (by decide) (Nat.le_of_ble_eq_true rfl) ?_
  intro p e s m args below meth c C
  revert h0
  unfold wX11_spoonCount
  have hl0 : lv_args 0 [.ref (ts_ad g 154)] = [(0, .ref (ts_ad g 154))] := rfl
  rw [hl0]
  refine ts_aload_n C dX11_spoonCount_0 rfl 0 rfl ?_
  refine tgX11_0 C q_428 dX11_spoonCount_1 ?_
  refine tgX9_0 ts_iS0 C q_291 dX11_spoonCount_4 ?_
  refine tgX8_4 ts_iS0 C q_192 dX11_spoonCount_7 ?_
  exact ts_ireti C (Nat.zero_le _) (Nat.zero_le _) dX11_spoonCount_10
def wX11_proposalCount (Q : Int → ts_M → Prop) (M : ts_M) : Prop :=
  Q (M.1 6 2) M
set_option maxRecDepth 100000 in
set_option maxHeartbeats 4000000 in
theorem mX11_proposalCount {l : Launch} {g : ts_W} (hl : l.stackTraces = false) {Q : Int → ts_M → Prop} {M : ts_M} : wX11_proposalCount Q M → ts_Con l g yX11_proposalCount cX11_proposalCount 1 (some .int) 0 0 0 [.ref (ts_ad g 154)] M (ts_Ri Q) := by
  intro h0
  refine ts_Con.of hl (by decide) (Nat.le_of_ble_eq_true rfl) ?_
  intro p e s m args below meth c C
  revert h0
  unfold wX11_proposalCount
  have hl0 : lv_args 0 [.ref (ts_ad g 154)] = [(0, .ref (ts_ad g 154))] := rfl
  rw [hl0]
  refine ts_aload_n C dX11_proposalCount_0 rfl 0 rfl ?_
  refine tgX11_0 C q_428 dX11_proposalCount_1 ?_
  refine tgX9_1 ts_iS0 C q_294 dX11_proposalCount_4 ?_
  refine tgX4_2 ts_iS0 C q_229 dX11_proposalCount_7 ?_
  exact ts_ireti C (Nat.zero_le _) (Nat.zero_le _) dX11_proposalCount_10
def wX11_motionCount (Q : Int → ts_M → Prop) (M : ts_M) : Prop :=
  Q (M.1 9 1) M
set_option maxRecDepth 100000 in
set_option maxHeartbeats 4000000 in
theorem mX11_motionCount {l : Launch} {g : ts_W} (hl : l.stackTraces = false) {Q : Int → ts_M → Prop} {M : ts_M} : wX11_motionCount Q M → ts_Con l g yX11_motionCount cX11_motionCount 1 (some .int) 0 0 0 [.ref (ts_ad g 154)] M (ts_Ri Q) := by
  intro h0
  refine ts_Con.of hl (by decide) (Nat.le_of_ble_eq_true rfl) ?_
  intro p e s m args below meth c C
  revert h0
  unfold wX11_motionCount
  have hl0 : lv_args 0 [.ref (ts_ad g 154)] = [(0, .ref (ts_ad g 154))] := rfl
  rw [hl0]
  refine ts_aload_n C dX11_motionCount_0 rfl 0 rfl ?_
  refine tgX11_0 C q_428 dX11_motionCount_1 ?_
  refine tgX9_2 ts_iS0 C q_296 dX11_motionCount_4 ?_
  refine tgX10_1 ts_iS0 C q_249 dX11_motionCount_7 ?_
  exact ts_ireti C (Nat.zero_le _) (Nat.zero_le _) dX11_motionCount_10
def wX11_isClosed (Q : Int → ts_M → Prop) (M : ts_M) : Prop :=
  ((ts_w (M.1 9 4) = 0 ∨ ts_w (M.1 9 4) = 1) ∧ Q (M.1 9 4) M)
set_option maxRecDepth 100000 in
set_option maxHeartbeats 4000000 in
theorem mX11_isClosed {l : Launch} {g : ts_W} (hl : l.stackTraces = false) {Q : Int → ts_M → Prop} {M : ts_M} : wX11_isClosed Q M → ts_Con l g yX11_isClosed cX11_isClosed 1 (some .boolean) 0 0 0 [.ref (ts_ad g 154)] M (ts_Ri Q) := by
  intro h0
  refine ts_Con.of hl (by decide) (Nat.le_of_ble_eq_true rfl) ?_
  intro p e s m args below meth c C
  revert h0
  unfold wX11_isClosed
  have hl0 : lv_args 0 [.ref (ts_ad g 154)] = [(0, .ref (ts_ad g 154))] := rfl
  rw [hl0]
  refine ts_aload_n C dX11_isClosed_0 rfl 0 rfl ?_
  refine tgX11_0 C q_428 dX11_isClosed_1 ?_
  refine tgX9_2 ts_iS0 C q_296 dX11_isClosed_4 ?_
  refine tgX10_4 ts_iS0 C q_258 dX11_isClosed_7 ?_
  exact ts_zreti C (Nat.zero_le _) (Nat.zero_le _) dX11_isClosed_10
def wX11_minutesCount (Q : Int → ts_M → Prop) (M : ts_M) : Prop :=
  Q (M.1 0 5) M
set_option maxRecDepth 100000 in
set_option maxHeartbeats 4000000 in
theorem mX11_minutesCount {l : Launch} {g : ts_W} (hl : l.stackTraces = false) {Q : Int → ts_M → Prop} {M : ts_M} : wX11_minutesCount Q M → ts_Con l g yX11_minutesCount cX11_minutesCount 1 (some .int) 0 0 0 [.ref (ts_ad g 154)] M (ts_Ri Q) := by
  intro h0
  refine ts_Con.of hl (by decide) (Nat.le_of_ble_eq_true rfl) ?_
  intro p e s m args below meth c C
  revert h0
  unfold wX11_minutesCount
  have hl0 : lv_args 0 [.ref (ts_ad g 154)] = [(0, .ref (ts_ad g 154))] := rfl
  rw [hl0]
  refine ts_aload_n C dX11_minutesCount_0 rfl 0 rfl ?_
  refine tgX11_0 C q_428 dX11_minutesCount_1 ?_
  refine tgX9_5 ts_iS0 C q_301 dX11_minutesCount_4 ?_
  exact ts_ireti C (Nat.zero_le _) (Nat.zero_le _) dX11_minutesCount_7
def wX11_sittings (Q : Int → ts_M → Prop) (M : ts_M) : Prop :=
  Q (M.1 0 6) M
set_option maxRecDepth 100000 in
set_option maxHeartbeats 4000000 in
theorem mX11_sittings {l : Launch} {g : ts_W} (hl : l.stackTraces = false) {Q : Int → ts_M → Prop} {M : ts_M} : wX11_sittings Q M → ts_Con l g yX11_sittings cX11_sittings 1 (some .int) 0 0 0 [.ref (ts_ad g 154)] M (ts_Ri Q) := by
  intro h0
  refine ts_Con.of hl (by decide) (Nat.le_of_ble_eq_true rfl) ?_
  intro p e s m args below meth c C
  revert h0
  unfold wX11_sittings
  have hl0 : lv_args 0 [.ref (ts_ad g 154)] = [(0, .ref (ts_ad g 154))] := rfl
  rw [hl0]
  refine ts_aload_n C dX11_sittings_0 rfl 0 rfl ?_
  refine tgX11_0 C q_428 dX11_sittings_1 ?_
  refine tgX9_6 ts_iS0 C q_303 dX11_sittings_4 ?_
  exact ts_ireti C (Nat.zero_le _) (Nat.zero_le _) dX11_sittings_7
def wX11_isBetween_B15   (Q : Int → ts_M → Prop)  (z0 : Int) (M : ts_M) : Prop :=
  ((ts_w z0 = 0 ∨ ts_w z0 = 1) ∧ Q z0 M)
def wX11_isBetween_B14   (Q : Int → ts_M → Prop)   (M : ts_M) : Prop :=
  wX11_isBetween_B15 Q 0 M
def wX11_isBetween (p1 : Int) (p2 : Int) (p3 : Int) (Q : Int → ts_M → Prop) (M : ts_M) : Prop :=
  ((ts_w p1 < ts_w p2 → wX11_isBetween_B14 Q M) ∧ (¬ (ts_w p1 < ts_w p2) → ((ts_w p3 < ts_w p1 → wX11_isBetween_B14 Q M) ∧ (¬ (ts_w p3 < ts_w p1) → wX11_isBetween_B15 Q 1 M))))
set_option maxRecDepth 100000 in
set_option maxHeartbeats 4000000 in
theorem mX11_isBetween {l : Launch} {g : ts_W} (hl : l.stackTraces = false) {p1 : Int} {p2 : Int} {p3 : Int} {Q : Int → ts_M → Prop} {M : ts_M} : wX11_isBetween p1 p2 p3 Q M → ts_Con l g yX11_isBetween cX11_isBetween 3 (some .boolean) 0 0 0 [ts_v p1, ts_v p2, ts_v p3] M (ts_Ri Q) := by
  intro h0
  refine ts_Con.of hl (by decide) (Nat.le_of_ble_eq_true rfl) ?_
  intro p e s m args below meth c C
  have H15 : ∀ (z0 : Int) (M : ts_M), wX11_isBetween_B15   Q z0 M → ts_V p l e (ts_rm 0 0 0) s m args below meth c g 3 0 0 (MQ below (ts_Q g (ts_Ri Q)) args s 0 0 (ts_A g)) 15 [] [ts_v z0] M := by
    intro  z0 M
    unfold wX11_isBetween_B15
    exact ts_zreti C (Nat.zero_le _) (Nat.zero_le _) dX11_isBetween_15
  have H14 : ∀  (M : ts_M), wX11_isBetween_B14   Q  M → ts_V p l e (ts_rm 0 0 0) s m args below meth c g 3 0 0 (MQ below (ts_Q g (ts_Ri Q)) args s 0 0 (ts_A g)) 14 [] [] M := by
    intro   M
    unfold wX11_isBetween_B14
    refine ts_iconst C dX11_isBetween_14 0 rfl ?_
    exact ts_sub [] rfl (H15 _ _)
  revert h0
  unfold wX11_isBetween
  have hl0 : lv_args 0 [ts_v p1, ts_v p2, ts_v p3] = [(0, ts_v p1), (1, ts_v p2), (2, ts_v p3)] := rfl
  rw [hl0]
  refine ts_iload_n C dX11_isBetween_0 rfl 0 rfl ?_
  refine ts_iload_n C dX11_isBetween_1 rfl 1 rfl ?_
  refine ts_cmp_lt C rfl rfl 14 dX11_isBetween_2 rfl ?_ ?_
  · exact ts_sub [] rfl (H14 _)
  · refine ts_iload_n C dX11_isBetween_5 rfl 0 rfl ?_
    refine ts_iload_n C dX11_isBetween_6 rfl 2 rfl ?_
    refine ts_cmp_gt C rfl rfl 14 dX11_isBetween_7 rfl ?_ ?_
    · exact ts_sub [] rfl (H14 _)
    · refine ts_iconst C dX11_isBetween_10 1 rfl ?_
      refine ts_goto C 15 dX11_isBetween_11 rfl ?_
      exact ts_sub [] rfl (H15 _ _)
def wX12_thrown (Q : Int → ts_M → Prop) (M : ts_M) : Prop :=
  Q (M.1 164 0) M
set_option maxRecDepth 100000 in
set_option maxHeartbeats 4000000 in
theorem mX12_thrown {l : Launch} {g : ts_W} (hl : l.stackTraces = false) {Q : Int → ts_M → Prop} {M : ts_M} : wX12_thrown Q M → ts_Con l g yX12_thrown cX12_thrown 1 (some .int) 0 0 0 [.ref (ts_ad g 164)] M (ts_Ri Q) := by
  intro h0
  refine ts_Con.of hl (by decide) (Nat.le_of_ble_eq_true rfl) ?_
  intro p e s m args below meth c C
  revert h0
  unfold wX12_thrown
  have hl0 : lv_args 0 [.ref (ts_ad g 164)] = [(0, .ref (ts_ad g 164))] := rfl
  rw [hl0]
  refine ts_aload_n C dX12_thrown_0 rfl 0 rfl ?_
  refine tgX12_0 C q_1958 dX12_thrown_1 ?_
  exact ts_ireti C (Nat.zero_le _) (Nat.zero_le _) dX12_thrown_4
def wX12_fails (p1 : Int) (Q : Int → ts_M → Prop) (M : ts_M) : Prop :=
  (∀ M1, M1 = ts_si M 164 0 p1 → Q 0 M1)
set_option maxRecDepth 100000 in
set_option maxHeartbeats 4000000 in
theorem mX12_fails {l : Launch} {g : ts_W} (hl : l.stackTraces = false) {p1 : Int} {Q : Int → ts_M → Prop} {M : ts_M} : wX12_fails p1 Q M → ts_Con l g yX12_fails cX12_fails 2 (some .int) 0 0 0 [.ref (ts_ad g 164), ts_v p1] M (ts_Ri Q) := by
  intro h0
  refine ts_Con.of hl (by decide) (Nat.le_of_ble_eq_true rfl) ?_
  intro p e s m args below meth c C
  revert h0
  unfold wX12_fails
  have hl0 : lv_args 0 [.ref (ts_ad g 164), ts_v p1] = [(0, .ref (ts_ad g 164)), (1, ts_v p1)] := rfl
  rw [hl0]
  refine ts_aload_n C dX12_fails_0 rfl 0 rfl ?_
  refine ts_iload_n C dX12_fails_1 rfl 1 rfl ?_
  refine tpX12_0 C q_1958 dX12_fails_2 (fun M1 => ?_)
  refine ts_iconst C dX12_fails_5 0 rfl ?_
  exact ts_ireti C (Nat.zero_le _) (Nat.zero_le _) dX12_fails_6
def wX12_isBetween_B15   (Q : Int → ts_M → Prop)  (z0 : Int) (M : ts_M) : Prop :=
  ((ts_w z0 = 0 ∨ ts_w z0 = 1) ∧ Q z0 M)
def wX12_isBetween_B14   (Q : Int → ts_M → Prop)   (M : ts_M) : Prop :=
  wX12_isBetween_B15 Q 0 M
def wX12_isBetween (p1 : Int) (p2 : Int) (p3 : Int) (Q : Int → ts_M → Prop) (M : ts_M) : Prop :=
  ((ts_w p1 < ts_w p2 → wX12_isBetween_B14 Q M) ∧ (¬ (ts_w p1 < ts_w p2) → ((ts_w p3 < ts_w p1 → wX12_isBetween_B14 Q M) ∧ (¬ (ts_w p3 < ts_w p1) → wX12_isBetween_B15 Q 1 M))))
set_option maxRecDepth 100000 in
set_option maxHeartbeats 4000000 in
theorem mX12_isBetween {l : Launch} {g : ts_W} (hl : l.stackTraces = false) {p1 : Int} {p2 : Int} {p3 : Int} {Q : Int → ts_M → Prop} {M : ts_M} : wX12_isBetween p1 p2 p3 Q M → ts_Con l g yX12_isBetween cX12_isBetween 3 (some .boolean) 0 0 0 [ts_v p1, ts_v p2, ts_v p3] M (ts_Ri Q) := by
  intro h0
  refine ts_Con.of hl (by decide) (Nat.le_of_ble_eq_true rfl) ?_
  intro p e s m args below meth c C
  have H15 : ∀ (z0 : Int) (M : ts_M), wX12_isBetween_B15   Q z0 M → ts_V p l e (ts_rm 0 0 0) s m args below meth c g 3 0 0 (MQ below (ts_Q g (ts_Ri Q)) args s 0 0 (ts_A g)) 15 [] [ts_v z0] M := by
    intro  z0 M
    unfold wX12_isBetween_B15
    exact ts_zreti C (Nat.zero_le _) (Nat.zero_le _) dX12_isBetween_15
  have H14 : ∀  (M : ts_M), wX12_isBetween_B14   Q  M → ts_V p l e (ts_rm 0 0 0) s m args below meth c g 3 0 0 (MQ below (ts_Q g (ts_Ri Q)) args s 0 0 (ts_A g)) 14 [] [] M := by
    intro   M
    unfold wX12_isBetween_B14
    refine ts_iconst C dX12_isBetween_14 0 rfl ?_
    exact ts_sub [] rfl (H15 _ _)
  revert h0
  unfold wX12_isBetween
  have hl0 : lv_args 0 [ts_v p1, ts_v p2, ts_v p3] = [(0, ts_v p1), (1, ts_v p2), (2, ts_v p3)] := rfl
  rw [hl0]
  refine ts_iload_n C dX12_isBetween_0 rfl 1 rfl ?_
  refine ts_iload_n C dX12_isBetween_1 rfl 0 rfl ?_
  refine ts_cmp_gt C rfl rfl 14 dX12_isBetween_2 rfl ?_ ?_
  · exact ts_sub [] rfl (H14 _)
  · refine ts_iload_n C dX12_isBetween_5 rfl 0 rfl ?_
    refine ts_iload_n C dX12_isBetween_6 rfl 2 rfl ?_
    refine ts_cmp_gt C rfl rfl 14 dX12_isBetween_7 rfl ?_ ?_
    · exact ts_sub [] rfl (H14 _)
    · refine ts_iconst C dX12_isBetween_10 1 rfl ?_
      refine ts_goto C 15 dX12_isBetween_11 rfl ?_
      exact ts_sub [] rfl (H15 _ _)
def wX12_difference_B14   (Q : Int → ts_M → Prop)  (z0 : Int) (M : ts_M) : Prop :=
  Q z0 M
def wX12_difference (p1 : Int) (p2 : Int) (Q : Int → ts_M → Prop) (M : ts_M) : Prop :=
  ((ts_w p2 ≤ ts_w p1 → wX12_difference_B14 Q (p1 - p2) M) ∧ (¬ (ts_w p2 ≤ ts_w p1) → wX12_difference_B14 Q (p2 - p1) M))
set_option maxRecDepth 100000 in
set_option maxHeartbeats 4000000 in
theorem mX12_difference {l : Launch} {g : ts_W} (hl : l.stackTraces = false) {p1 : Int} {p2 : Int} {Q : Int → ts_M → Prop} {M : ts_M} : wX12_difference p1 p2 Q M → ts_Con l g yX12_difference cX12_difference 2 (some .int) 0 0 0 [ts_v p1, ts_v p2] M (ts_Ri Q) := by
  intro h0
  refine ts_Con.of hl (by decide) (Nat.le_of_ble_eq_true rfl) ?_
  intro p e s m args below meth c C
  have H14 : ∀ (z0 : Int) (M : ts_M), wX12_difference_B14   Q z0 M → ts_V p l e (ts_rm 0 0 0) s m args below meth c g 2 0 0 (MQ below (ts_Q g (ts_Ri Q)) args s 0 0 (ts_A g)) 14 [] [ts_v z0] M := by
    intro  z0 M
    unfold wX12_difference_B14
    exact ts_ireti C (Nat.zero_le _) (Nat.zero_le _) dX12_difference_14
  revert h0
  unfold wX12_difference
  have hl0 : lv_args 0 [ts_v p1, ts_v p2] = [(0, ts_v p1), (1, ts_v p2)] := rfl
  rw [hl0]
  refine ts_iload_n C dX12_difference_0 rfl 0 rfl ?_
  refine ts_iload_n C dX12_difference_1 rfl 1 rfl ?_
  refine ts_cmp_ge C rfl rfl 11 dX12_difference_2 rfl ?_ ?_
  · refine ts_iload_n C dX12_difference_11 rfl 0 rfl ?_
    refine ts_iload_n C dX12_difference_12 rfl 1 rfl ?_
    refine ts_isub C dX12_difference_13 ?_
    exact ts_sub [] rfl (H14 _ _)
  · refine ts_iload_n C dX12_difference_5 rfl 1 rfl ?_
    refine ts_iload_n C dX12_difference_6 rfl 0 rfl ?_
    refine ts_isub C dX12_difference_7 ?_
    refine ts_goto C 14 dX12_difference_8 rfl ?_
    exact ts_sub [] rfl (H14 _ _)
def wX12_copies_L2   (Q : ts_M → Prop) (k2 : Int → ts_M → Prop) (y1 : Int) (M : ts_M) : Prop :=
  ((146 ≤ ts_w y1 → Q M) ∧ (¬ (146 ≤ ts_w y1) → ((0 ≤ ts_w y1 ∧ ts_w y1 < ((146 : Nat) : Int)) ∧ ((0 ≤ ts_w y1 ∧ ts_w y1 < ((146 : Nat) : Int)) ∧ ∀ M2, M2 = ts_si M 168 (ts_w y1) (M.1 165 (ts_w y1)) → (∀ x3 : Int, x3 = y1 + 1 → k2 x3 M2)))))
def wX12_copies (Q : ts_M → Prop) (M : ts_M) : Prop :=
  (∀ x1 : Int, x1 = 0 → ∃ n, ts_lp1 (wX12_copies_L2 Q) n x1 M)
set_option maxRecDepth 100000 in
set_option maxHeartbeats 4000000 in
theorem mX12_copies {l : Launch} {g : ts_W} (hl : l.stackTraces = false) {Q : ts_M → Prop} {M : ts_M} : wX12_copies Q M → ts_Con l g yX12_copies cX12_copies 2 none 0 0 0 [.ref (ts_ad g 164)] M (ts_Rv Q) := by
  intro h0
  refine ts_Con.of hl (by decide) (Nat.le_of_ble_eq_true rfl) ?_
  intro p e s m args below meth c C
  have H2 : ∀ (n : Nat) (y1 : Int) (M : ts_M), ts_lp1 (wX12_copies_L2   Q) n y1 M → ts_V p l e (ts_rm 0 0 0) s m args below meth c g 2 0 0 (MQ below (ts_Q g (ts_Rv Q)) args s 0 0 (ts_A g)) 2 [(0, .ref (ts_ad g 164)), (1, ts_v y1)] [] M := by
    refine ts_lpr1 (V := fun (y1 : Int) (M : ts_M) => ts_V p l e (ts_rm 0 0 0) s m args below meth c g 2 0 0 (MQ below (ts_Q g (ts_Rv Q)) args s 0 0 (ts_A g)) 2 [(0, .ref (ts_ad g 164)), (1, ts_v y1)] [] M) ?_
    intro k2 hk2 y1 M
    unfold wX12_copies_L2
    refine ts_iload_n C dX12_copies_2 rfl 1 rfl ?_
    refine ts_sipush C dX12_copies_3 146 tsp_146 ?_
    refine ts_cmp_ge C rfl tw_146 27 dX12_copies_6 rfl ?_ ?_
    · exact ts_vreti C (Nat.zero_le _) (Nat.zero_le _) dX12_copies_27
    · refine ts_aload_n C dX12_copies_9 rfl 0 rfl ?_
      refine tgX12_4 C q_1962 dX12_copies_10 ?_
      refine ts_iload_n C dX12_copies_13 rfl 1 rfl ?_
      refine ts_aload_n C dX12_copies_14 rfl 0 rfl ?_
      refine tgX12_1 C q_1959 dX12_copies_15 ?_
      refine ts_iload_n C dX12_copies_18 rfl 1 rfl ?_
      refine ts_iald C (by decide) shG165 dX12_copies_19 ?_
      refine ts_iast C (by decide) shG168 dX12_copies_20 (fun M2 => ?_)
      refine ts_iinc C dX12_copies_21 1 rfl (by decide) (lv' := fun x3 => [(1, ts_v x3), (0, .ref (ts_ad g 164))]) (fun _ => rfl) (fun x3 => ?_)
      refine ts_goto C 2 dX12_copies_24 rfl ?_
      exact ts_sub [1, 0] rfl (hk2 _ _)
  revert h0
  unfold wX12_copies
  have hl0 : lv_args 0 [.ref (ts_ad g 164)] = [(0, .ref (ts_ad g 164))] := rfl
  rw [hl0]
  refine ts_iconst C dX12_copies_0 0 rfl ?_
  refine ts_istore_n C dX12_copies_1 rfl (by decide) (lv' := fun x1 => [(1, ts_v x1), (0, .ref (ts_ad g 164))]) (fun _ => rfl) (fun x1 => ?_)
  rintro ⟨n, hn⟩
  exact ts_sub [1, 0] rfl (H2 n _ _) hn
def wX12_goesBack_L2   (Q : ts_M → Prop) (k2 : Int → ts_M → Prop) (y1 : Int) (M : ts_M) : Prop :=
  ((146 ≤ ts_w y1 → Q M) ∧ (¬ (146 ≤ ts_w y1) → ((0 ≤ ts_w y1 ∧ ts_w y1 < ((146 : Nat) : Int)) ∧ ((0 ≤ ts_w y1 ∧ ts_w y1 < ((146 : Nat) : Int)) ∧ ∀ M2, M2 = ts_si M 165 (ts_w y1) (M.1 168 (ts_w y1)) → (∀ x3 : Int, x3 = y1 + 1 → k2 x3 M2)))))
def wX12_goesBack (Q : ts_M → Prop) (M : ts_M) : Prop :=
  (∀ x1 : Int, x1 = 0 → ∃ n, ts_lp1 (wX12_goesBack_L2 Q) n x1 M)
set_option maxRecDepth 100000 in
set_option maxHeartbeats 4000000 in
theorem mX12_goesBack {l : Launch} {g : ts_W} (hl : l.stackTraces = false) {Q : ts_M → Prop} {M : ts_M} : wX12_goesBack Q M → ts_Con l g yX12_goesBack cX12_goesBack 2 none 0 0 0 [.ref (ts_ad g 164)] M (ts_Rv Q) := by
  intro h0
  refine ts_Con.of hl (by decide) (Nat.le_of_ble_eq_true rfl) ?_
  intro p e s m args below meth c C
  have H2 : ∀ (n : Nat) (y1 : Int) (M : ts_M), ts_lp1 (wX12_goesBack_L2   Q) n y1 M → ts_V p l e (ts_rm 0 0 0) s m args below meth c g 2 0 0 (MQ below (ts_Q g (ts_Rv Q)) args s 0 0 (ts_A g)) 2 [(0, .ref (ts_ad g 164)), (1, ts_v y1)] [] M := by
    refine ts_lpr1 (V := fun (y1 : Int) (M : ts_M) => ts_V p l e (ts_rm 0 0 0) s m args below meth c g 2 0 0 (MQ below (ts_Q g (ts_Rv Q)) args s 0 0 (ts_A g)) 2 [(0, .ref (ts_ad g 164)), (1, ts_v y1)] [] M) ?_
    intro k2 hk2 y1 M
    unfold wX12_goesBack_L2
    refine ts_iload_n C dX12_goesBack_2 rfl 1 rfl ?_
    refine ts_sipush C dX12_goesBack_3 146 tsp_146 ?_
    refine ts_cmp_ge C rfl tw_146 27 dX12_goesBack_6 rfl ?_ ?_
    · exact ts_vreti C (Nat.zero_le _) (Nat.zero_le _) dX12_goesBack_27
    · refine ts_aload_n C dX12_goesBack_9 rfl 0 rfl ?_
      refine tgX12_1 C q_1959 dX12_goesBack_10 ?_
      refine ts_iload_n C dX12_goesBack_13 rfl 1 rfl ?_
      refine ts_aload_n C dX12_goesBack_14 rfl 0 rfl ?_
      refine tgX12_4 C q_1962 dX12_goesBack_15 ?_
      refine ts_iload_n C dX12_goesBack_18 rfl 1 rfl ?_
      refine ts_iald C (by decide) shG168 dX12_goesBack_19 ?_
      refine ts_iast C (by decide) shG165 dX12_goesBack_20 (fun M2 => ?_)
      refine ts_iinc C dX12_goesBack_21 1 rfl (by decide) (lv' := fun x3 => [(1, ts_v x3), (0, .ref (ts_ad g 164))]) (fun _ => rfl) (fun x3 => ?_)
      refine ts_goto C 2 dX12_goesBack_24 rfl ?_
      exact ts_sub [1, 0] rfl (hk2 _ _)
  revert h0
  unfold wX12_goesBack
  have hl0 : lv_args 0 [.ref (ts_ad g 164)] = [(0, .ref (ts_ad g 164))] := rfl
  rw [hl0]
  refine ts_iconst C dX12_goesBack_0 0 rfl ?_
  refine ts_istore_n C dX12_goesBack_1 rfl (by decide) (lv' := fun x1 => [(1, ts_v x1), (0, .ref (ts_ad g 164))]) (fun _ => rfl) (fun x1 => ?_)
  rintro ⟨n, hn⟩
  exact ts_sub [1, 0] rfl (H2 n _ _) hn
def wX12_keeps_L47   (Q : ts_M → Prop) (k47 : Int → Int → ts_M → Prop) (y1 : Int) (y2 : Int) (M : ts_M) : Prop :=
  ((146 ≤ ts_w y2 → (∀ M3, M3 = ts_si M 164 5 ((M.1 164 5) + 1) → Q M3)) ∧ (¬ (146 ≤ ts_w y2) → ((0 ≤ ts_w y2 ∧ ts_w y2 < ((146 : Nat) : Int)) ∧ ((0 ≤ ts_w ((146 * y1) + y2) ∧ ts_w ((146 * y1) + y2) < ((1168 : Nat) : Int)) ∧ ∀ M4, M4 = ts_si M 166 (ts_w ((146 * y1) + y2)) (M.1 168 (ts_w y2)) → (∀ x5 : Int, x5 = y2 + 1 → k47 y1 x5 M4)))))
def wX12_keeps_B32   (Q : ts_M → Prop)   (M : ts_M) : Prop :=
  (∀ x1 : Int, x1 = ts_rem ((M.1 164 6) + (M.1 164 5)) 8 → (∀ x2 : Int, x2 = 0 → ∃ n, ts_lp2 (wX12_keeps_L47 Q) n x1 x2 M))
def wX12_keeps (Q : ts_M → Prop) (M : ts_M) : Prop :=
  ((¬ (ts_w (M.1 164 5) = 8) → wX12_keeps_B32 Q M) ∧ (ts_w (M.1 164 5) = 8 → (∀ M6, M6 = ts_si M 164 6 (ts_rem ((M.1 164 6) + 1) 8) → (∀ M7, M7 = ts_si M6 164 5 ((M6.1 164 5) - 1) → wX12_keeps_B32 Q M7))))
set_option maxRecDepth 100000 in
set_option maxHeartbeats 4000000 in
theorem mX12_keeps {l : Launch} {g : ts_W} (hl : l.stackTraces = false) {Q : ts_M → Prop} {M : ts_M} : wX12_keeps Q M → ts_Con l g yX12_keeps cX12_keeps 3 none 0 0 0 [.ref (ts_ad g 164)] M (ts_Rv Q) := by
  intro h0
  refine ts_Con.of hl (by decide) (Nat.le_of_ble_eq_true rfl) ?_
  intro p e s m args below meth c C
  have H47 : ∀ (n : Nat) (y1 : Int) (y2 : Int) (M : ts_M), ts_lp2 (wX12_keeps_L47   Q) n y1 y2 M → ts_V p l e (ts_rm 0 0 0) s m args below meth c g 3 0 0 (MQ below (ts_Q g (ts_Rv Q)) args s 0 0 (ts_A g)) 47 [(0, .ref (ts_ad g 164)), (1, ts_v y1), (2, ts_v y2)] [] M := by
    refine ts_lpr2 (V := fun (y1 : Int) (y2 : Int) (M : ts_M) => ts_V p l e (ts_rm 0 0 0) s m args below meth c g 3 0 0 (MQ below (ts_Q g (ts_Rv Q)) args s 0 0 (ts_A g)) 47 [(0, .ref (ts_ad g 164)), (1, ts_v y1), (2, ts_v y2)] [] M) ?_
    intro k47 hk47 y1 y2 M
    unfold wX12_keeps_L47
    refine ts_iload_n C dX12_keeps_47 rfl 2 rfl ?_
    refine ts_sipush C dX12_keeps_48 146 tsp_146 ?_
    refine ts_cmp_ge C rfl tw_146 78 dX12_keeps_51 rfl ?_ ?_
    · refine ts_aload_n C dX12_keeps_78 rfl 0 rfl ?_
      refine ts_dup C dX12_keeps_79 rfl ?_
      refine tgX12_5 C q_1963 dX12_keeps_80 ?_
      refine ts_iconst C dX12_keeps_83 1 rfl ?_
      refine ts_iadd C dX12_keeps_84 ?_
      refine tpX12_5 C q_1963 dX12_keeps_85 (fun M3 => ?_)
      exact ts_vreti C (Nat.zero_le _) (Nat.zero_le _) dX12_keeps_88
    · refine ts_aload_n C dX12_keeps_54 rfl 0 rfl ?_
      refine tgX12_2 C q_1960 dX12_keeps_55 ?_
      refine ts_sipush C dX12_keeps_58 146 tsp_146 ?_
      refine ts_iload_n C dX12_keeps_61 rfl 1 rfl ?_
      refine ts_imul C dX12_keeps_62 ?_
      refine ts_iload_n C dX12_keeps_63 rfl 2 rfl ?_
      refine ts_iadd C dX12_keeps_64 ?_
      refine ts_aload_n C dX12_keeps_65 rfl 0 rfl ?_
      refine tgX12_4 C q_1962 dX12_keeps_66 ?_
      refine ts_iload_n C dX12_keeps_69 rfl 2 rfl ?_
      refine ts_iald C (by decide) shG168 dX12_keeps_70 ?_
      refine ts_iast C (by decide) shG166 dX12_keeps_71 (fun M4 => ?_)
      refine ts_iinc C dX12_keeps_72 2 rfl (by decide) (lv' := fun x5 => [(2, ts_v x5), (0, .ref (ts_ad g 164)), (1, ts_v y1)]) (fun _ => rfl) (fun x5 => ?_)
      refine ts_goto C 47 dX12_keeps_75 rfl ?_
      exact ts_sub [1, 2, 0] rfl (hk47 _ _ _)
  have H32 : ∀  (M : ts_M), wX12_keeps_B32   Q  M → ts_V p l e (ts_rm 0 0 0) s m args below meth c g 3 0 0 (MQ below (ts_Q g (ts_Rv Q)) args s 0 0 (ts_A g)) 32 [(0, .ref (ts_ad g 164))] [] M := by
    intro   M
    unfold wX12_keeps_B32
    refine ts_aload_n C dX12_keeps_32 rfl 0 rfl ?_
    refine tgX12_6 C q_1964 dX12_keeps_33 ?_
    refine ts_aload_n C dX12_keeps_36 rfl 0 rfl ?_
    refine tgX12_5 C q_1963 dX12_keeps_37 ?_
    refine ts_iadd C dX12_keeps_40 ?_
    refine ts_bipush C dX12_keeps_41 8 tb_8 ?_
    refine ts_iremc C (by rw [tw_8]; decide) dX12_keeps_43 ?_
    refine ts_istore_n C dX12_keeps_44 rfl (by decide) (lv' := fun x1 => [(1, ts_v x1), (0, .ref (ts_ad g 164))]) (fun _ => rfl) (fun x1 => ?_)
    refine ts_iconst C dX12_keeps_45 0 rfl ?_
    refine ts_istore_n C dX12_keeps_46 rfl (by decide) (lv' := fun x2 => [(2, ts_v x2), (1, ts_v x1), (0, .ref (ts_ad g 164))]) (fun _ => rfl) (fun x2 => ?_)
    rintro ⟨n, hn⟩
    exact ts_sub [2, 1, 0] rfl (H47 n _ _ _) hn
  revert h0
  unfold wX12_keeps
  have hl0 : lv_args 0 [.ref (ts_ad g 164)] = [(0, .ref (ts_ad g 164))] := rfl
  rw [hl0]
  refine ts_aload_n C dX12_keeps_0 rfl 0 rfl ?_
  refine tgX12_5 C q_1963 dX12_keeps_1 ?_
  refine ts_bipush C dX12_keeps_4 8 tb_8 ?_
  refine ts_cmp_ne C rfl tw_8 32 dX12_keeps_6 rfl ?_ ?_
  · exact ts_sub [0] rfl (H32 _)
  · refine ts_aload_n C dX12_keeps_9 rfl 0 rfl ?_
    refine ts_aload_n C dX12_keeps_10 rfl 0 rfl ?_
    refine tgX12_6 C q_1964 dX12_keeps_11 ?_
    refine ts_iconst C dX12_keeps_14 1 rfl ?_
    refine ts_iadd C dX12_keeps_15 ?_
    refine ts_bipush C dX12_keeps_16 8 tb_8 ?_
    refine ts_iremc C (by rw [tw_8]; decide) dX12_keeps_18 ?_
    refine tpX12_6 C q_1964 dX12_keeps_19 (fun M6 => ?_)
    refine ts_aload_n C dX12_keeps_22 rfl 0 rfl ?_
    refine ts_dup C dX12_keeps_23 rfl ?_
    refine tgX12_5 C q_1963 dX12_keeps_24 ?_
    refine ts_iconst C dX12_keeps_27 1 rfl ?_
    refine ts_isub C dX12_keeps_28 ?_
    refine tpX12_5 C q_1963 dX12_keeps_29 (fun M7 => ?_)
    exact ts_sub [0] rfl (H32 _)
def wX12_remembers (Q : ts_M → Prop) (M : ts_M) : Prop :=
  (wX12_copies  (fun M1 => (wX12_keeps  (fun M2 => Q M2) M1)) M)
set_option maxRecDepth 100000 in
set_option maxHeartbeats 4000000 in
theorem mX12_remembers {l : Launch} {g : ts_W} (hl : l.stackTraces = false) {Q : ts_M → Prop} {M : ts_M} : wX12_remembers Q M → ts_Con l g yX12_remembers cX12_remembers 1 none 1 0 0 [.ref (ts_ad g 164)] M (ts_Rv Q) := by
  intro h0
  refine ts_Con.of hl (by decide) (Nat.le_of_ble_eq_true rfl) ?_
  intro p e s m args below meth c C
  revert h0
  unfold wX12_remembers
  have hl0 : lv_args 0 [.ref (ts_ad g 164)] = [(0, .ref (ts_ad g 164))] := rfl
  rw [hl0]
  refine ts_aload_n C dX12_remembers_0 rfl 0 rfl ?_
  refine ts_callVv C [] (mX12_copies hl) kX12_copies q_2045 (by decide) shX12 rfl rfl rfl (Nat.le_of_ble_eq_true rfl) ⟨Nat.le_of_ble_eq_true rfl, Nat.le_of_ble_eq_true rfl⟩ ⟨Nat.le_of_ble_eq_true rfl, Nat.le_of_ble_eq_true rfl⟩ dX12_remembers_1 (fun M1 => ?_)
  refine ts_aload_n C dX12_remembers_4 rfl 0 rfl ?_
  refine ts_callVv C [] (mX12_keeps hl) kX12_keeps q_2049 (by decide) shX12 rfl rfl rfl (Nat.le_of_ble_eq_true rfl) ⟨Nat.le_of_ble_eq_true rfl, Nat.le_of_ble_eq_true rfl⟩ ⟨Nat.le_of_ble_eq_true rfl, Nat.le_of_ble_eq_true rfl⟩ dX12_remembers_5 (fun M2 => ?_)
  exact ts_vreti C (Nat.zero_le _) (Nat.zero_le _) dX12_remembers_8
def wX12_isSpoon (p1 : Int) (Q : Int → ts_M → Prop) (M : ts_M) : Prop :=
  (wX12_isBetween p1 0 ((M.1 165 0) - 1) (fun r2 M1 => ((ts_w r2 = 0 ∨ ts_w r2 = 1) ∧ Q r2 M1)) M)
set_option maxRecDepth 100000 in
set_option maxHeartbeats 4000000 in
theorem mX12_isSpoon {l : Launch} {g : ts_W} (hl : l.stackTraces = false) {p1 : Int} {Q : Int → ts_M → Prop} {M : ts_M} : wX12_isSpoon p1 Q M → ts_Con l g yX12_isSpoon cX12_isSpoon 2 (some .boolean) 1 0 0 [.ref (ts_ad g 164), ts_v p1] M (ts_Ri Q) := by
  intro h0
  refine ts_Con.of hl (by decide) (Nat.le_of_ble_eq_true rfl) ?_
  intro p e s m args below meth c C
  revert h0
  unfold wX12_isSpoon
  have hl0 : lv_args 0 [.ref (ts_ad g 164), ts_v p1] = [(0, .ref (ts_ad g 164)), (1, ts_v p1)] := rfl
  rw [hl0]
  refine ts_iload_n C dX12_isSpoon_0 rfl 1 rfl ?_
  refine ts_iconst C dX12_isSpoon_1 0 rfl ?_
  refine ts_aload_n C dX12_isSpoon_2 rfl 0 rfl ?_
  refine tgX12_1 C q_1959 dX12_isSpoon_3 ?_
  refine ts_iconst C dX12_isSpoon_6 0 rfl ?_
  refine ts_ialdc C (by decide) shG165 tw_0 (by decide) dX12_isSpoon_7 ?_
  refine ts_iconst C dX12_isSpoon_8 1 rfl ?_
  refine ts_isub C dX12_isSpoon_9 ?_
  refine ts_callSi C [ts_v p1, ts_v 0, ts_v ((M.1 165 0) - 1)] (mX12_isBetween hl) kX12_isBetween q_2034 rfl rfl (Nat.le_of_ble_eq_true rfl) ⟨Nat.le_of_ble_eq_true rfl, Nat.le_of_ble_eq_true rfl⟩ ⟨Nat.le_of_ble_eq_true rfl, Nat.le_of_ble_eq_true rfl⟩ dX12_isSpoon_10 (fun r2 M1 => ?_)
  exact ts_zreti C (Nat.zero_le _) (Nat.zero_le _) dX12_isSpoon_13
def wX12_spoon (p1 : Int) (p2 : Int) (Q : Int → ts_M → Prop) (M : ts_M) : Prop :=
  ((0 ≤ ts_w ((11 + (4 * p1)) + p2) ∧ ts_w ((11 + (4 * p1)) + p2) < ((146 : Nat) : Int)) ∧ Q (M.1 165 (ts_w ((11 + (4 * p1)) + p2))) M)
set_option maxRecDepth 100000 in
set_option maxHeartbeats 4000000 in
theorem mX12_spoon {l : Launch} {g : ts_W} (hl : l.stackTraces = false) {p1 : Int} {p2 : Int} {Q : Int → ts_M → Prop} {M : ts_M} : wX12_spoon p1 p2 Q M → ts_Con l g yX12_spoon cX12_spoon 3 (some .int) 0 0 0 [.ref (ts_ad g 164), ts_v p1, ts_v p2] M (ts_Ri Q) := by
  intro h0
  refine ts_Con.of hl (by decide) (Nat.le_of_ble_eq_true rfl) ?_
  intro p e s m args below meth c C
  revert h0
  unfold wX12_spoon
  have hl0 : lv_args 0 [.ref (ts_ad g 164), ts_v p1, ts_v p2] = [(0, .ref (ts_ad g 164)), (1, ts_v p1), (2, ts_v p2)] := rfl
  rw [hl0]
  refine ts_aload_n C dX12_spoon_0 rfl 0 rfl ?_
  refine tgX12_1 C q_1959 dX12_spoon_1 ?_
  refine ts_bipush C dX12_spoon_4 11 tb_11 ?_
  refine ts_iconst C dX12_spoon_6 4 rfl ?_
  refine ts_iload_n C dX12_spoon_7 rfl 1 rfl ?_
  refine ts_imul C dX12_spoon_8 ?_
  refine ts_iadd C dX12_spoon_9 ?_
  refine ts_iload_n C dX12_spoon_10 rfl 2 rfl ?_
  refine ts_iadd C dX12_spoon_11 ?_
  refine ts_iald C (by decide) shG165 dX12_spoon_12 ?_
  exact ts_ireti C (Nat.zero_le _) (Nat.zero_le _) dX12_spoon_13
def wX12_puts (p1 : Int) (p2 : Int) (p3 : Int) (Q : ts_M → Prop) (M : ts_M) : Prop :=
  ((0 ≤ ts_w ((11 + (4 * p1)) + p2) ∧ ts_w ((11 + (4 * p1)) + p2) < ((146 : Nat) : Int)) ∧ ∀ M1, M1 = ts_si M 165 (ts_w ((11 + (4 * p1)) + p2)) p3 → Q M1)
set_option maxRecDepth 100000 in
set_option maxHeartbeats 4000000 in
theorem mX12_puts {l : Launch} {g : ts_W} (hl : l.stackTraces = false) {p1 : Int} {p2 : Int} {p3 : Int} {Q : ts_M → Prop} {M : ts_M} : wX12_puts p1 p2 p3 Q M → ts_Con l g yX12_puts cX12_puts 4 none 0 0 0 [.ref (ts_ad g 164), ts_v p1, ts_v p2, ts_v p3] M (ts_Rv Q) := by
  intro h0
  refine ts_Con.of hl (by decide) (Nat.le_of_ble_eq_true rfl) ?_
  intro p e s m args below meth c C
  revert h0
  unfold wX12_puts
  have hl0 : lv_args 0 [.ref (ts_ad g 164), ts_v p1, ts_v p2, ts_v p3] = [(0, .ref (ts_ad g 164)), (1, ts_v p1), (2, ts_v p2), (3, ts_v p3)] := rfl
  rw [hl0]
  refine ts_aload_n C dX12_puts_0 rfl 0 rfl ?_
  refine tgX12_1 C q_1959 dX12_puts_1 ?_
  refine ts_bipush C dX12_puts_4 11 tb_11 ?_
  refine ts_iconst C dX12_puts_6 4 rfl ?_
  refine ts_iload_n C dX12_puts_7 rfl 1 rfl ?_
  refine ts_imul C dX12_puts_8 ?_
  refine ts_iadd C dX12_puts_9 ?_
  refine ts_iload_n C dX12_puts_10 rfl 2 rfl ?_
  refine ts_iadd C dX12_puts_11 ?_
  refine ts_iload_n C dX12_puts_12 rfl 3 rfl ?_
  refine ts_iast C (by decide) shG165 dX12_puts_13 (fun M1 => ?_)
  exact ts_vreti C (Nat.zero_le _) (Nat.zero_le _) dX12_puts_14
def wX12_idAt (p1 : Int) (Q : Int → ts_M → Prop) (M : ts_M) : Prop :=
  ((0 ≤ ts_w (43 + (2 * p1)) ∧ ts_w (43 + (2 * p1)) < ((146 : Nat) : Int)) ∧ Q (M.1 165 (ts_w (43 + (2 * p1)))) M)
set_option maxRecDepth 100000 in
set_option maxHeartbeats 4000000 in
theorem mX12_idAt {l : Launch} {g : ts_W} (hl : l.stackTraces = false) {p1 : Int} {Q : Int → ts_M → Prop} {M : ts_M} : wX12_idAt p1 Q M → ts_Con l g yX12_idAt cX12_idAt 2 (some .int) 0 0 0 [.ref (ts_ad g 164), ts_v p1] M (ts_Ri Q) := by
  intro h0
  refine ts_Con.of hl (by decide) (Nat.le_of_ble_eq_true rfl) ?_
  intro p e s m args below meth c C
  revert h0
  unfold wX12_idAt
  have hl0 : lv_args 0 [.ref (ts_ad g 164), ts_v p1] = [(0, .ref (ts_ad g 164)), (1, ts_v p1)] := rfl
  rw [hl0]
  refine ts_aload_n C dX12_idAt_0 rfl 0 rfl ?_
  refine tgX12_1 C q_1959 dX12_idAt_1 ?_
  refine ts_bipush C dX12_idAt_4 43 tb_43 ?_
  refine ts_iconst C dX12_idAt_6 2 rfl ?_
  refine ts_iload_n C dX12_idAt_7 rfl 1 rfl ?_
  refine ts_imul C dX12_idAt_8 ?_
  refine ts_iadd C dX12_idAt_9 ?_
  refine ts_iald C (by decide) shG165 dX12_idAt_10 ?_
  exact ts_ireti C (Nat.zero_le _) (Nat.zero_le _) dX12_idAt_11
def wX12_positionAt (p1 : Int) (Q : Int → ts_M → Prop) (M : ts_M) : Prop :=
  ((0 ≤ ts_w ((43 + (2 * p1)) + 1) ∧ ts_w ((43 + (2 * p1)) + 1) < ((146 : Nat) : Int)) ∧ Q (M.1 165 (ts_w ((43 + (2 * p1)) + 1))) M)
set_option maxRecDepth 100000 in
set_option maxHeartbeats 4000000 in
theorem mX12_positionAt {l : Launch} {g : ts_W} (hl : l.stackTraces = false) {p1 : Int} {Q : Int → ts_M → Prop} {M : ts_M} : wX12_positionAt p1 Q M → ts_Con l g yX12_positionAt cX12_positionAt 2 (some .int) 0 0 0 [.ref (ts_ad g 164), ts_v p1] M (ts_Ri Q) := by
  intro h0
  refine ts_Con.of hl (by decide) (Nat.le_of_ble_eq_true rfl) ?_
  intro p e s m args below meth c C
  revert h0
  unfold wX12_positionAt
  have hl0 : lv_args 0 [.ref (ts_ad g 164), ts_v p1] = [(0, .ref (ts_ad g 164)), (1, ts_v p1)] := rfl
  rw [hl0]
  refine ts_aload_n C dX12_positionAt_0 rfl 0 rfl ?_
  refine tgX12_1 C q_1959 dX12_positionAt_1 ?_
  refine ts_bipush C dX12_positionAt_4 43 tb_43 ?_
  refine ts_iconst C dX12_positionAt_6 2 rfl ?_
  refine ts_iload_n C dX12_positionAt_7 rfl 1 rfl ?_
  refine ts_imul C dX12_positionAt_8 ?_
  refine ts_iadd C dX12_positionAt_9 ?_
  refine ts_iconst C dX12_positionAt_10 1 rfl ?_
  refine ts_iadd C dX12_positionAt_11 ?_
  refine ts_iald C (by decide) shG165 dX12_positionAt_12 ?_
  exact ts_ireti C (Nat.zero_le _) (Nat.zero_le _) dX12_positionAt_13
def wX12_place_L2   (Q : Int → ts_M → Prop) (k2 : Int → Int → ts_M → Prop) (y1 : Int) (y2 : Int) (M : ts_M) : Prop :=
  ((ts_w (M.1 165 1) ≤ ts_w y2 → Q (-1) M) ∧ (¬ (ts_w (M.1 165 1) ≤ ts_w y2) → (wX12_idAt y2 (fun r3 M2 => ((¬ (ts_w r3 = ts_w y1) → (∀ x4 : Int, x4 = y2 + 1 → k2 y1 x4 M2)) ∧ (ts_w r3 = ts_w y1 → Q y2 M2))) M)))
def wX12_place (p1 : Int) (Q : Int → ts_M → Prop) (M : ts_M) : Prop :=
  (∀ x1 : Int, x1 = 0 → ∃ n, ts_lp2 (wX12_place_L2 Q) n p1 x1 M)
set_option maxRecDepth 100000 in
set_option maxHeartbeats 4000000 in
theorem mX12_place {l : Launch} {g : ts_W} (hl : l.stackTraces = false) {p1 : Int} {Q : Int → ts_M → Prop} {M : ts_M} : wX12_place p1 Q M → ts_Con l g yX12_place cX12_place 3 (some .int) 1 0 0 [.ref (ts_ad g 164), ts_v p1] M (ts_Ri Q) := by
  intro h0
  refine ts_Con.of hl (by decide) (Nat.le_of_ble_eq_true rfl) ?_
  intro p e s m args below meth c C
  have H2 : ∀ (n : Nat) (y1 : Int) (y2 : Int) (M : ts_M), ts_lp2 (wX12_place_L2   Q) n y1 y2 M → ts_V p l e (ts_rm 1 0 0) s m args below meth c g 3 0 0 (MQ below (ts_Q g (ts_Ri Q)) args s 0 0 (ts_A g)) 2 [(0, .ref (ts_ad g 164)), (1, ts_v y1), (2, ts_v y2)] [] M := by
    refine ts_lpr2 (V := fun (y1 : Int) (y2 : Int) (M : ts_M) => ts_V p l e (ts_rm 1 0 0) s m args below meth c g 3 0 0 (MQ below (ts_Q g (ts_Ri Q)) args s 0 0 (ts_A g)) 2 [(0, .ref (ts_ad g 164)), (1, ts_v y1), (2, ts_v y2)] [] M) ?_
    intro k2 hk2 y1 y2 M
    unfold wX12_place_L2
    refine ts_iload_n C dX12_place_2 rfl 2 rfl ?_
    refine ts_aload_n C dX12_place_3 rfl 0 rfl ?_
    refine tgX12_1 C q_1959 dX12_place_4 ?_
    refine ts_iconst C dX12_place_7 1 rfl ?_
    refine ts_ialdc C (by decide) shG165 tw_1 (by decide) dX12_place_8 ?_
    refine ts_cmp_ge C rfl rfl 29 dX12_place_9 rfl ?_ ?_
    · refine ts_iconst C dX12_place_29 (-1) rfl ?_
      exact ts_ireti C (Nat.zero_le _) (Nat.zero_le _) dX12_place_30
    · refine ts_aload_n C dX12_place_12 rfl 0 rfl ?_
      refine ts_iload_n C dX12_place_13 rfl 2 rfl ?_
      refine ts_callVi C [ts_v y2] (mX12_idAt hl) kX12_idAt q_2089 (by decide) shX12 rfl rfl rfl (Nat.le_of_ble_eq_true rfl) ⟨Nat.le_of_ble_eq_true rfl, Nat.le_of_ble_eq_true rfl⟩ ⟨Nat.le_of_ble_eq_true rfl, Nat.le_of_ble_eq_true rfl⟩ dX12_place_14 (fun r3 M2 => ?_)
      refine ts_iload_n C dX12_place_17 rfl 1 rfl ?_
      refine ts_cmp_ne C rfl rfl 23 dX12_place_18 rfl ?_ ?_
      · refine ts_iinc C dX12_place_23 2 rfl (by decide) (lv' := fun x4 => [(2, ts_v x4), (0, .ref (ts_ad g 164)), (1, ts_v y1)]) (fun _ => rfl) (fun x4 => ?_)
        refine ts_goto C 2 dX12_place_26 rfl ?_
        exact ts_sub [1, 2, 0] rfl (hk2 _ _ _)
      · refine ts_iload_n C dX12_place_21 rfl 2 rfl ?_
        exact ts_ireti C (Nat.zero_le _) (Nat.zero_le _) dX12_place_22
  revert h0
  unfold wX12_place
  have hl0 : lv_args 0 [.ref (ts_ad g 164), ts_v p1] = [(0, .ref (ts_ad g 164)), (1, ts_v p1)] := rfl
  rw [hl0]
  refine ts_iconst C dX12_place_0 0 rfl ?_
  refine ts_istore_n C dX12_place_1 rfl (by decide) (lv' := fun x1 => [(2, ts_v x1), (0, .ref (ts_ad g 164)), (1, ts_v p1)]) (fun _ => rfl) (fun x1 => ?_)
  rintro ⟨n, hn⟩
  exact ts_sub [1, 2, 0] rfl (H2 n _ _ _) hn
def wX12_weights_L4   (Q : Int → ts_M → Prop) (k4 : Int → Int → ts_M → Prop) (y1 : Int) (y2 : Int) (M : ts_M) : Prop :=
  ((ts_w (M.1 165 0) ≤ ts_w y2 → Q y1 M) ∧ (¬ (ts_w (M.1 165 0) ≤ ts_w y2) → (wX12_spoon y2 0 (fun r4 M3 => (∀ x5 : Int, x5 = y1 + r4 → (∀ x6 : Int, x6 = y2 + 1 → k4 x5 x6 M3))) M)))
def wX12_weights (Q : Int → ts_M → Prop) (M : ts_M) : Prop :=
  (∀ x1 : Int, x1 = 0 → (∀ x2 : Int, x2 = 0 → ∃ n, ts_lp2 (wX12_weights_L4 Q) n x1 x2 M))
set_option maxRecDepth 100000 in
set_option maxHeartbeats 4000000 in
theorem mX12_weights {l : Launch} {g : ts_W} (hl : l.stackTraces = false) {Q : Int → ts_M → Prop} {M : ts_M} : wX12_weights Q M → ts_Con l g yX12_weights cX12_weights 3 (some .int) 1 0 0 [.ref (ts_ad g 164)] M (ts_Ri Q) := by
  intro h0
  refine ts_Con.of hl (by decide) (Nat.le_of_ble_eq_true rfl) ?_
  intro p e s m args below meth c C
  have H4 : ∀ (n : Nat) (y1 : Int) (y2 : Int) (M : ts_M), ts_lp2 (wX12_weights_L4   Q) n y1 y2 M → ts_V p l e (ts_rm 1 0 0) s m args below meth c g 3 0 0 (MQ below (ts_Q g (ts_Ri Q)) args s 0 0 (ts_A g)) 4 [(0, .ref (ts_ad g 164)), (1, ts_v y1), (2, ts_v y2)] [] M := by
    refine ts_lpr2 (V := fun (y1 : Int) (y2 : Int) (M : ts_M) => ts_V p l e (ts_rm 1 0 0) s m args below meth c g 3 0 0 (MQ below (ts_Q g (ts_Ri Q)) args s 0 0 (ts_A g)) 4 [(0, .ref (ts_ad g 164)), (1, ts_v y1), (2, ts_v y2)] [] M) ?_
    intro k4 hk4 y1 y2 M
    unfold wX12_weights_L4
    refine ts_iload_n C dX12_weights_4 rfl 2 rfl ?_
    refine ts_aload_n C dX12_weights_5 rfl 0 rfl ?_
    refine tgX12_1 C q_1959 dX12_weights_6 ?_
    refine ts_iconst C dX12_weights_9 0 rfl ?_
    refine ts_ialdc C (by decide) shG165 tw_0 (by decide) dX12_weights_10 ?_
    refine ts_cmp_ge C rfl rfl 29 dX12_weights_11 rfl ?_ ?_
    · refine ts_iload_n C dX12_weights_29 rfl 1 rfl ?_
      exact ts_ireti C (Nat.zero_le _) (Nat.zero_le _) dX12_weights_30
    · refine ts_iload_n C dX12_weights_14 rfl 1 rfl ?_
      refine ts_aload_n C dX12_weights_15 rfl 0 rfl ?_
      refine ts_iload_n C dX12_weights_16 rfl 2 rfl ?_
      refine ts_iconst C dX12_weights_17 0 rfl ?_
      refine ts_callVi C [ts_v y2, ts_v 0] (mX12_spoon hl) kX12_spoon q_2149 (by decide) shX12 rfl rfl rfl (Nat.le_of_ble_eq_true rfl) ⟨Nat.le_of_ble_eq_true rfl, Nat.le_of_ble_eq_true rfl⟩ ⟨Nat.le_of_ble_eq_true rfl, Nat.le_of_ble_eq_true rfl⟩ dX12_weights_18 (fun r4 M3 => ?_)
      refine ts_iadd C dX12_weights_21 ?_
      refine ts_istore_n C dX12_weights_22 rfl (by decide) (lv' := fun x5 => [(1, ts_v x5), (0, .ref (ts_ad g 164)), (2, ts_v y2)]) (fun _ => rfl) (fun x5 => ?_)
      refine ts_iinc C dX12_weights_23 2 rfl (by decide) (lv' := fun x6 => [(2, ts_v x6), (1, ts_v x5), (0, .ref (ts_ad g 164))]) (fun _ => rfl) (fun x6 => ?_)
      refine ts_goto C 4 dX12_weights_26 rfl ?_
      exact ts_sub [2, 1, 0] rfl (hk4 _ _ _)
  revert h0
  unfold wX12_weights
  have hl0 : lv_args 0 [.ref (ts_ad g 164)] = [(0, .ref (ts_ad g 164))] := rfl
  rw [hl0]
  refine ts_iconst C dX12_weights_0 0 rfl ?_
  refine ts_istore_n C dX12_weights_1 rfl (by decide) (lv' := fun x1 => [(1, ts_v x1), (0, .ref (ts_ad g 164))]) (fun _ => rfl) (fun x1 => ?_)
  refine ts_iconst C dX12_weights_2 0 rfl ?_
  refine ts_istore_n C dX12_weights_3 rfl (by decide) (lv' := fun x2 => [(2, ts_v x2), (1, ts_v x1), (0, .ref (ts_ad g 164))]) (fun _ => rfl) (fun x2 => ?_)
  rintro ⟨n, hn⟩
  exact ts_sub [2, 1, 0] rfl (H4 n _ _ _) hn
def wX12_notSpoon_B20   (Q : Int → ts_M → Prop)   (M : ts_M) : Prop :=
  Q 1 M
def wX12_notSpoon_B38   (Q : Int → ts_M → Prop)  (z0 : Int) (M : ts_M) : Prop :=
  Q z0 M
def wX12_notSpoon (p1 : Int) (p2 : Int) (Q : Int → ts_M → Prop) (M : ts_M) : Prop :=
  (wX12_isBetween p1 1 9 (fun r2 M1 => ((ts_w r2 = 0 → wX12_notSpoon_B20 Q M1) ∧ (¬ (ts_w r2 = 0) → (wX12_isBetween p2 0 99 (fun r4 M3 => ((¬ (ts_w r4 = 0) → ((¬ (ts_w (M3.1 165 0) = 8) → wX12_notSpoon_B38 Q 0 M3) ∧ (ts_w (M3.1 165 0) = 8 → wX12_notSpoon_B38 Q 2 M3))) ∧ (ts_w r4 = 0 → wX12_notSpoon_B20 Q M3))) M1)))) M)
set_option maxRecDepth 100000 in
set_option maxHeartbeats 4000000 in
theorem mX12_notSpoon {l : Launch} {g : ts_W} (hl : l.stackTraces = false) {p1 : Int} {p2 : Int} {Q : Int → ts_M → Prop} {M : ts_M} : wX12_notSpoon p1 p2 Q M → ts_Con l g yX12_notSpoon cX12_notSpoon 3 (some .int) 1 0 0 [.ref (ts_ad g 164), ts_v p1, ts_v p2] M (ts_Ri Q) := by
  intro h0
  refine ts_Con.of hl (by decide) (Nat.le_of_ble_eq_true rfl) ?_
  intro p e s m args below meth c C
  have H20 : ∀  (M : ts_M), wX12_notSpoon_B20   Q  M → ts_V p l e (ts_rm 1 0 0) s m args below meth c g 3 0 0 (MQ below (ts_Q g (ts_Ri Q)) args s 0 0 (ts_A g)) 20 [] [] M := by
    intro   M
    unfold wX12_notSpoon_B20
    refine ts_iconst C dX12_notSpoon_20 1 rfl ?_
    exact ts_ireti C (Nat.zero_le _) (Nat.zero_le _) dX12_notSpoon_21
  have H38 : ∀ (z0 : Int) (M : ts_M), wX12_notSpoon_B38   Q z0 M → ts_V p l e (ts_rm 1 0 0) s m args below meth c g 3 0 0 (MQ below (ts_Q g (ts_Ri Q)) args s 0 0 (ts_A g)) 38 [] [ts_v z0] M := by
    intro  z0 M
    unfold wX12_notSpoon_B38
    exact ts_ireti C (Nat.zero_le _) (Nat.zero_le _) dX12_notSpoon_38
  revert h0
  unfold wX12_notSpoon
  have hl0 : lv_args 0 [.ref (ts_ad g 164), ts_v p1, ts_v p2] = [(0, .ref (ts_ad g 164)), (1, ts_v p1), (2, ts_v p2)] := rfl
  rw [hl0]
  refine ts_iload_n C dX12_notSpoon_0 rfl 1 rfl ?_
  refine ts_iconst C dX12_notSpoon_1 1 rfl ?_
  refine ts_bipush C dX12_notSpoon_2 9 tb_9 ?_
  refine ts_callSi C [ts_v p1, ts_v 1, ts_v 9] (mX12_isBetween hl) kX12_isBetween q_2034 rfl rfl (Nat.le_of_ble_eq_true rfl) ⟨Nat.le_of_ble_eq_true rfl, Nat.le_of_ble_eq_true rfl⟩ ⟨Nat.le_of_ble_eq_true rfl, Nat.le_of_ble_eq_true rfl⟩ dX12_notSpoon_4 (fun r2 M1 => ?_)
  refine ts_cm0_eq C rfl 20 dX12_notSpoon_7 rfl ?_ ?_
  · exact ts_sub [] rfl (H20 _)
  · refine ts_iload_n C dX12_notSpoon_10 rfl 2 rfl ?_
    refine ts_iconst C dX12_notSpoon_11 0 rfl ?_
    refine ts_bipush C dX12_notSpoon_12 99 tb_99 ?_
    refine ts_callSi C [ts_v p2, ts_v 0, ts_v 99] (mX12_isBetween hl) kX12_isBetween q_2034 rfl rfl (Nat.le_of_ble_eq_true rfl) ⟨Nat.le_of_ble_eq_true rfl, Nat.le_of_ble_eq_true rfl⟩ ⟨Nat.le_of_ble_eq_true rfl, Nat.le_of_ble_eq_true rfl⟩ dX12_notSpoon_14 (fun r4 M3 => ?_)
    refine ts_cm0_ne C rfl 22 dX12_notSpoon_17 rfl ?_ ?_
    · refine ts_aload_n C dX12_notSpoon_22 rfl 0 rfl ?_
      refine tgX12_1 C q_1959 dX12_notSpoon_23 ?_
      refine ts_iconst C dX12_notSpoon_26 0 rfl ?_
      refine ts_ialdc C (by decide) shG165 tw_0 (by decide) dX12_notSpoon_27 ?_
      refine ts_bipush C dX12_notSpoon_28 8 tb_8 ?_
      refine ts_cmp_ne C rfl tw_8 37 dX12_notSpoon_30 rfl ?_ ?_
      · refine ts_iconst C dX12_notSpoon_37 0 rfl ?_
        exact ts_sub [] rfl (H38 _ _)
      · refine ts_iconst C dX12_notSpoon_33 2 rfl ?_
        refine ts_goto C 38 dX12_notSpoon_34 rfl ?_
        exact ts_sub [] rfl (H38 _ _)
    · exact ts_sub [] rfl (H20 _)
def wX12_addsSpoon (p1 : Int) (p2 : Int) (Q : Int → ts_M → Prop) (M : ts_M) : Prop :=
  (∀ x1 : Int, x1 = M.1 165 0 → (∀ M2, M2 = ts_si M 165 0 ((M.1 165 0) + 1) → (wX12_puts x1 0 p1 (fun M3 => (wX12_puts x1 1 p2 (fun M4 => (wX12_puts x1 2 5 (fun M5 => Q x1 M5) M4)) M3)) M2)))
set_option maxRecDepth 100000 in
set_option maxHeartbeats 4000000 in
theorem mX12_addsSpoon {l : Launch} {g : ts_W} (hl : l.stackTraces = false) {p1 : Int} {p2 : Int} {Q : Int → ts_M → Prop} {M : ts_M} : wX12_addsSpoon p1 p2 Q M → ts_Con l g yX12_addsSpoon cX12_addsSpoon 4 (some .int) 1 0 0 [.ref (ts_ad g 164), ts_v p1, ts_v p2] M (ts_Ri Q) := by
  intro h0
  refine ts_Con.of hl (by decide) (Nat.le_of_ble_eq_true rfl) ?_
  intro p e s m args below meth c C
  revert h0
  unfold wX12_addsSpoon
  have hl0 : lv_args 0 [.ref (ts_ad g 164), ts_v p1, ts_v p2] = [(0, .ref (ts_ad g 164)), (1, ts_v p1), (2, ts_v p2)] := rfl
  rw [hl0]
  refine ts_aload_n C dX12_addsSpoon_0 rfl 0 rfl ?_
  refine tgX12_1 C q_1959 dX12_addsSpoon_1 ?_
  refine ts_iconst C dX12_addsSpoon_4 0 rfl ?_
  refine ts_ialdc C (by decide) shG165 tw_0 (by decide) dX12_addsSpoon_5 ?_
  refine ts_istore_n C dX12_addsSpoon_6 rfl (by decide) (lv' := fun x1 => [(3, ts_v x1), (0, .ref (ts_ad g 164)), (1, ts_v p1), (2, ts_v p2)]) (fun _ => rfl) (fun x1 => ?_)
  refine ts_aload_n C dX12_addsSpoon_7 rfl 1 rfl ?_
  refine tgX12_1 C q_1959 dX12_addsSpoon_8 ?_
  refine ts_iconst C dX12_addsSpoon_11 0 rfl ?_
  refine ts_dup2 C dX12_addsSpoon_12 rfl rfl ?_
  refine ts_ialdc C (by decide) shG165 tw_0 (by decide) dX12_addsSpoon_13 ?_
  refine ts_iconst C dX12_addsSpoon_14 1 rfl ?_
  refine ts_iadd C dX12_addsSpoon_15 ?_
  refine ts_iastc C (by decide) shG165 tw_0 (by decide) dX12_addsSpoon_16 (fun M2 => ?_)
  refine ts_aload_n C dX12_addsSpoon_17 rfl 1 rfl ?_
  refine ts_iload_n C dX12_addsSpoon_18 rfl 0 rfl ?_
  refine ts_iconst C dX12_addsSpoon_19 0 rfl ?_
  refine ts_iload_n C dX12_addsSpoon_20 rfl 2 rfl ?_
  refine ts_callVv C [ts_v x1, ts_v 0, ts_v p1] (mX12_puts hl) kX12_puts q_2057 (by decide) shX12 rfl rfl rfl (Nat.le_of_ble_eq_true rfl) ⟨Nat.le_of_ble_eq_true rfl, Nat.le_of_ble_eq_true rfl⟩ ⟨Nat.le_of_ble_eq_true rfl, Nat.le_of_ble_eq_true rfl⟩ dX12_addsSpoon_21 (fun M3 => ?_)
  refine ts_aload_n C dX12_addsSpoon_24 rfl 1 rfl ?_
  refine ts_iload_n C dX12_addsSpoon_25 rfl 0 rfl ?_
  refine ts_iconst C dX12_addsSpoon_26 1 rfl ?_
  refine ts_iload_n C dX12_addsSpoon_27 rfl 3 rfl ?_
  refine ts_callVv C [ts_v x1, ts_v 1, ts_v p2] (mX12_puts hl) kX12_puts q_2057 (by decide) shX12 rfl rfl rfl (Nat.le_of_ble_eq_true rfl) ⟨Nat.le_of_ble_eq_true rfl, Nat.le_of_ble_eq_true rfl⟩ ⟨Nat.le_of_ble_eq_true rfl, Nat.le_of_ble_eq_true rfl⟩ dX12_addsSpoon_28 (fun M4 => ?_)
  refine ts_aload_n C dX12_addsSpoon_31 rfl 1 rfl ?_
  refine ts_iload_n C dX12_addsSpoon_32 rfl 0 rfl ?_
  refine ts_iconst C dX12_addsSpoon_33 2 rfl ?_
  refine ts_iconst C dX12_addsSpoon_34 5 rfl ?_
  refine ts_callVv C [ts_v x1, ts_v 2, ts_v 5] (mX12_puts hl) kX12_puts q_2057 (by decide) shX12 rfl rfl rfl (Nat.le_of_ble_eq_true rfl) ⟨Nat.le_of_ble_eq_true rfl, Nat.le_of_ble_eq_true rfl⟩ ⟨Nat.le_of_ble_eq_true rfl, Nat.le_of_ble_eq_true rfl⟩ dX12_addsSpoon_35 (fun M5 => ?_)
  refine ts_iload_n C dX12_addsSpoon_38 rfl 0 rfl ?_
  exact ts_ireti C (Nat.zero_le _) (Nat.zero_le _) dX12_addsSpoon_39
def wX12_addSpoon (p1 : Int) (p2 : Int) (Q : Int → ts_M → Prop) (M : ts_M) : Prop :=
  (∀ M1, M1 = ts_si M 164 0 0 → (wX12_notSpoon p1 p2 (fun r3 M2 => (∀ x4 : Int, x4 = r3 → ((ts_w x4 = 0 → (wX12_remembers  (fun M5 => (wX12_addsSpoon p1 p2 (fun r7 M6 => Q r7 M6) M5)) M2)) ∧ (¬ (ts_w x4 = 0) → (wX12_fails x4 (fun r9 M8 => Q r9 M8) M2))))) M1))
set_option maxRecDepth 100000 in
set_option maxHeartbeats 4000000 in
theorem mX12_addSpoon {l : Launch} {g : ts_W} (hl : l.stackTraces = false) {p1 : Int} {p2 : Int} {Q : Int → ts_M → Prop} {M : ts_M} : wX12_addSpoon p1 p2 Q M → ts_Con l g yX12_addSpoon cX12_addSpoon 4 (some .int) 2 0 0 [.ref (ts_ad g 164), ts_v p1, ts_v p2] M (ts_Ri Q) := by
  intro h0
  refine ts_Con.of hl (by decide) (Nat.le_of_ble_eq_true rfl) ?_
  intro p e s m args below meth c C
  revert h0
  unfold wX12_addSpoon
  have hl0 : lv_args 0 [.ref (ts_ad g 164), ts_v p1, ts_v p2] = [(0, .ref (ts_ad g 164)), (1, ts_v p1), (2, ts_v p2)] := rfl
  rw [hl0]
  refine ts_aload_n C dX12_addSpoon_0 rfl 0 rfl ?_
  refine ts_iconst C dX12_addSpoon_1 0 rfl ?_
  refine tpX12_0 C q_1958 dX12_addSpoon_2 (fun M1 => ?_)
  refine ts_aload_n C dX12_addSpoon_5 rfl 0 rfl ?_
  refine ts_iload_n C dX12_addSpoon_6 rfl 1 rfl ?_
  refine ts_iload_n C dX12_addSpoon_7 rfl 2 rfl ?_
  refine ts_callVi C [ts_v p1, ts_v p2] (mX12_notSpoon hl) kX12_notSpoon q_2030 (by decide) shX12 rfl rfl rfl (Nat.le_of_ble_eq_true rfl) ⟨Nat.le_of_ble_eq_true rfl, Nat.le_of_ble_eq_true rfl⟩ ⟨Nat.le_of_ble_eq_true rfl, Nat.le_of_ble_eq_true rfl⟩ dX12_addSpoon_8 (fun r3 M2 => ?_)
  refine ts_istore_n C dX12_addSpoon_11 rfl (by decide) (lv' := fun x4 => [(3, ts_v x4), (0, .ref (ts_ad g 164)), (1, ts_v p1), (2, ts_v p2)]) (fun _ => rfl) (fun x4 => ?_)
  refine ts_iload_n C dX12_addSpoon_12 rfl 0 rfl ?_
  refine ts_cm0_eq C rfl 22 dX12_addSpoon_13 rfl ?_ ?_
  · refine ts_aload_n C dX12_addSpoon_22 rfl 1 rfl ?_
    refine ts_callVv C [] (mX12_remembers hl) kX12_remembers q_2041 (by decide) shX12 rfl rfl rfl (Nat.le_of_ble_eq_true rfl) ⟨Nat.le_of_ble_eq_true rfl, Nat.le_of_ble_eq_true rfl⟩ ⟨Nat.le_of_ble_eq_true rfl, Nat.le_of_ble_eq_true rfl⟩ dX12_addSpoon_23 (fun M5 => ?_)
    refine ts_aload_n C dX12_addSpoon_26 rfl 1 rfl ?_
    refine ts_iload_n C dX12_addSpoon_27 rfl 2 rfl ?_
    refine ts_iload_n C dX12_addSpoon_28 rfl 3 rfl ?_
    refine ts_callVi C [ts_v p1, ts_v p2] (mX12_addsSpoon hl) kX12_addsSpoon q_2053 (by decide) shX12 rfl rfl rfl (Nat.le_of_ble_eq_true rfl) ⟨Nat.le_of_ble_eq_true rfl, Nat.le_of_ble_eq_true rfl⟩ ⟨Nat.le_of_ble_eq_true rfl, Nat.le_of_ble_eq_true rfl⟩ dX12_addSpoon_29 (fun r7 M6 => ?_)
    exact ts_ireti C (Nat.zero_le _) (Nat.zero_le _) dX12_addSpoon_32
  · refine ts_aload_n C dX12_addSpoon_16 rfl 1 rfl ?_
    refine ts_iload_n C dX12_addSpoon_17 rfl 0 rfl ?_
    refine ts_callVi C [ts_v x4] (mX12_fails hl) kX12_fails q_2037 (by decide) shX12 rfl rfl rfl (Nat.le_of_ble_eq_true rfl) ⟨Nat.le_of_ble_eq_true rfl, Nat.le_of_ble_eq_true rfl⟩ ⟨Nat.le_of_ble_eq_true rfl, Nat.le_of_ble_eq_true rfl⟩ dX12_addSpoon_18 (fun r9 M8 => ?_)
    exact ts_ireti C (Nat.zero_le _) (Nat.zero_le _) dX12_addSpoon_21
def wX12_notPropose_B28   (Q : Int → ts_M → Prop)  (z0 : Int) (M : ts_M) : Prop :=
  Q z0 M
def wX12_notPropose (p1 : Int) (Q : Int → ts_M → Prop) (M : ts_M) : Prop :=
  (wX12_isBetween p1 0 99 (fun r2 M1 => ((¬ (ts_w r2 = 0) → ((¬ (ts_w (M1.1 165 1) = 6) → wX12_notPropose_B28 Q 0 M1) ∧ (ts_w (M1.1 165 1) = 6 → wX12_notPropose_B28 Q 2 M1))) ∧ (ts_w r2 = 0 → Q 1 M1))) M)
set_option maxRecDepth 100000 in
set_option maxHeartbeats 4000000 in
theorem mX12_notPropose {l : Launch} {g : ts_W} (hl : l.stackTraces = false) {p1 : Int} {Q : Int → ts_M → Prop} {M : ts_M} : wX12_notPropose p1 Q M → ts_Con l g yX12_notPropose cX12_notPropose 2 (some .int) 1 0 0 [.ref (ts_ad g 164), ts_v p1] M (ts_Ri Q) := by
  intro h0
  refine ts_Con.of hl (by decide) (Nat.le_of_ble_eq_true rfl) ?_
  intro p e s m args below meth c C
  have H28 : ∀ (z0 : Int) (M : ts_M), wX12_notPropose_B28   Q z0 M → ts_V p l e (ts_rm 1 0 0) s m args below meth c g 2 0 0 (MQ below (ts_Q g (ts_Ri Q)) args s 0 0 (ts_A g)) 28 [] [ts_v z0] M := by
    intro  z0 M
    unfold wX12_notPropose_B28
    exact ts_ireti C (Nat.zero_le _) (Nat.zero_le _) dX12_notPropose_28
  revert h0
  unfold wX12_notPropose
  have hl0 : lv_args 0 [.ref (ts_ad g 164), ts_v p1] = [(0, .ref (ts_ad g 164)), (1, ts_v p1)] := rfl
  rw [hl0]
  refine ts_iload_n C dX12_notPropose_0 rfl 1 rfl ?_
  refine ts_iconst C dX12_notPropose_1 0 rfl ?_
  refine ts_bipush C dX12_notPropose_2 99 tb_99 ?_
  refine ts_callSi C [ts_v p1, ts_v 0, ts_v 99] (mX12_isBetween hl) kX12_isBetween q_2034 rfl rfl (Nat.le_of_ble_eq_true rfl) ⟨Nat.le_of_ble_eq_true rfl, Nat.le_of_ble_eq_true rfl⟩ ⟨Nat.le_of_ble_eq_true rfl, Nat.le_of_ble_eq_true rfl⟩ dX12_notPropose_4 (fun r2 M1 => ?_)
  refine ts_cm0_ne C rfl 12 dX12_notPropose_7 rfl ?_ ?_
  · refine ts_aload_n C dX12_notPropose_12 rfl 0 rfl ?_
    refine tgX12_1 C q_1959 dX12_notPropose_13 ?_
    refine ts_iconst C dX12_notPropose_16 1 rfl ?_
    refine ts_ialdc C (by decide) shG165 tw_1 (by decide) dX12_notPropose_17 ?_
    refine ts_bipush C dX12_notPropose_18 6 tb_6 ?_
    refine ts_cmp_ne C rfl tw_6 27 dX12_notPropose_20 rfl ?_ ?_
    · refine ts_iconst C dX12_notPropose_27 0 rfl ?_
      exact ts_sub [] rfl (H28 _ _)
    · refine ts_iconst C dX12_notPropose_23 2 rfl ?_
      refine ts_goto C 28 dX12_notPropose_24 rfl ?_
      exact ts_sub [] rfl (H28 _ _)
  · refine ts_iconst C dX12_notPropose_10 1 rfl ?_
    exact ts_ireti C (Nat.zero_le _) (Nat.zero_le _) dX12_notPropose_11
def wX12_lists (p1 : Int) (p2 : Int) (Q : Int → ts_M → Prop) (M : ts_M) : Prop :=
  ((0 ≤ ts_w (43 + (2 * (M.1 165 1))) ∧ ts_w (43 + (2 * (M.1 165 1))) < ((146 : Nat) : Int)) ∧ ∀ M1, M1 = ts_si M 165 (ts_w (43 + (2 * (M.1 165 1)))) p1 → ((0 ≤ ts_w ((43 + (2 * (M1.1 165 1))) + 1) ∧ ts_w ((43 + (2 * (M1.1 165 1))) + 1) < ((146 : Nat) : Int)) ∧ ∀ M2, M2 = ts_si M1 165 (ts_w ((43 + (2 * (M1.1 165 1))) + 1)) p2 → (∀ M3, M3 = ts_si M2 165 1 ((M2.1 165 1) + 1) → Q p1 M3)))
set_option maxRecDepth 100000 in
set_option maxHeartbeats 4000000 in
theorem mX12_lists {l : Launch} {g : ts_W} (hl : l.stackTraces = false) {p1 : Int} {p2 : Int} {Q : Int → ts_M → Prop} {M : ts_M} : wX12_lists p1 p2 Q M → ts_Con l g yX12_lists cX12_lists 3 (some .int) 0 0 0 [.ref (ts_ad g 164), ts_v p1, ts_v p2] M (ts_Ri Q) := by
  intro h0
  refine ts_Con.of hl (by decide) (Nat.le_of_ble_eq_true rfl) ?_
  intro p e s m args below meth c C
  revert h0
  unfold wX12_lists
  have hl0 : lv_args 0 [.ref (ts_ad g 164), ts_v p1, ts_v p2] = [(0, .ref (ts_ad g 164)), (1, ts_v p1), (2, ts_v p2)] := rfl
  rw [hl0]
  refine ts_aload_n C dX12_lists_0 rfl 0 rfl ?_
  refine tgX12_1 C q_1959 dX12_lists_1 ?_
  refine ts_bipush C dX12_lists_4 43 tb_43 ?_
  refine ts_iconst C dX12_lists_6 2 rfl ?_
  refine ts_aload_n C dX12_lists_7 rfl 0 rfl ?_
  refine tgX12_1 C q_1959 dX12_lists_8 ?_
  refine ts_iconst C dX12_lists_11 1 rfl ?_
  refine ts_ialdc C (by decide) shG165 tw_1 (by decide) dX12_lists_12 ?_
  refine ts_imul C dX12_lists_13 ?_
  refine ts_iadd C dX12_lists_14 ?_
  refine ts_iload_n C dX12_lists_15 rfl 1 rfl ?_
  refine ts_iast C (by decide) shG165 dX12_lists_16 (fun M1 => ?_)
  refine ts_aload_n C dX12_lists_17 rfl 0 rfl ?_
  refine tgX12_1 C q_1959 dX12_lists_18 ?_
  refine ts_bipush C dX12_lists_21 43 tb_43 ?_
  refine ts_iconst C dX12_lists_23 2 rfl ?_
  refine ts_aload_n C dX12_lists_24 rfl 0 rfl ?_
  refine tgX12_1 C q_1959 dX12_lists_25 ?_
  refine ts_iconst C dX12_lists_28 1 rfl ?_
  refine ts_ialdc C (by decide) shG165 tw_1 (by decide) dX12_lists_29 ?_
  refine ts_imul C dX12_lists_30 ?_
  refine ts_iadd C dX12_lists_31 ?_
  refine ts_iconst C dX12_lists_32 1 rfl ?_
  refine ts_iadd C dX12_lists_33 ?_
  refine ts_iload_n C dX12_lists_34 rfl 2 rfl ?_
  refine ts_iast C (by decide) shG165 dX12_lists_35 (fun M2 => ?_)
  refine ts_aload_n C dX12_lists_36 rfl 0 rfl ?_
  refine tgX12_1 C q_1959 dX12_lists_37 ?_
  refine ts_iconst C dX12_lists_40 1 rfl ?_
  refine ts_dup2 C dX12_lists_41 rfl rfl ?_
  refine ts_ialdc C (by decide) shG165 tw_1 (by decide) dX12_lists_42 ?_
  refine ts_iconst C dX12_lists_43 1 rfl ?_
  refine ts_iadd C dX12_lists_44 ?_
  refine ts_iastc C (by decide) shG165 tw_1 (by decide) dX12_lists_45 (fun M3 => ?_)
  refine ts_iload_n C dX12_lists_46 rfl 1 rfl ?_
  exact ts_ireti C (Nat.zero_le _) (Nat.zero_le _) dX12_lists_47
def wX12_proposes (p1 : Int) (Q : Int → ts_M → Prop) (M : ts_M) : Prop :=
  (∀ M1, M1 = ts_si M 165 2 ((M.1 165 2) + 1) → (wX12_lists ((M1.1 165 2) - 1) p1 (fun r3 M2 => Q r3 M2) M1))
set_option maxRecDepth 100000 in
set_option maxHeartbeats 4000000 in
theorem mX12_proposes {l : Launch} {g : ts_W} (hl : l.stackTraces = false) {p1 : Int} {Q : Int → ts_M → Prop} {M : ts_M} : wX12_proposes p1 Q M → ts_Con l g yX12_proposes cX12_proposes 2 (some .int) 1 0 0 [.ref (ts_ad g 164), ts_v p1] M (ts_Ri Q) := by
  intro h0
  refine ts_Con.of hl (by decide) (Nat.le_of_ble_eq_true rfl) ?_
  intro p e s m args below meth c C
  revert h0
  unfold wX12_proposes
  have hl0 : lv_args 0 [.ref (ts_ad g 164), ts_v p1] = [(0, .ref (ts_ad g 164)), (1, ts_v p1)] := rfl
  rw [hl0]
  refine ts_aload_n C dX12_proposes_0 rfl 0 rfl ?_
  refine tgX12_1 C q_1959 dX12_proposes_1 ?_
  refine ts_iconst C dX12_proposes_4 2 rfl ?_
  refine ts_dup2 C dX12_proposes_5 rfl rfl ?_
  refine ts_ialdc C (by decide) shG165 tw_2 (by decide) dX12_proposes_6 ?_
  refine ts_iconst C dX12_proposes_7 1 rfl ?_
  refine ts_iadd C dX12_proposes_8 ?_
  refine ts_iastc C (by decide) shG165 tw_2 (by decide) dX12_proposes_9 (fun M1 => ?_)
  refine ts_aload_n C dX12_proposes_10 rfl 0 rfl ?_
  refine ts_aload_n C dX12_proposes_11 rfl 0 rfl ?_
  refine tgX12_1 C q_1959 dX12_proposes_12 ?_
  refine ts_iconst C dX12_proposes_15 2 rfl ?_
  refine ts_ialdc C (by decide) shG165 tw_2 (by decide) dX12_proposes_16 ?_
  refine ts_iconst C dX12_proposes_17 1 rfl ?_
  refine ts_isub C dX12_proposes_18 ?_
  refine ts_iload_n C dX12_proposes_19 rfl 1 rfl ?_
  refine ts_callVi C [ts_v ((M1.1 165 2) - 1), ts_v p1] (mX12_lists hl) kX12_lists q_2073 (by decide) shX12 rfl rfl rfl (Nat.le_of_ble_eq_true rfl) ⟨Nat.le_of_ble_eq_true rfl, Nat.le_of_ble_eq_true rfl⟩ ⟨Nat.le_of_ble_eq_true rfl, Nat.le_of_ble_eq_true rfl⟩ dX12_proposes_20 (fun r3 M2 => ?_)
  exact ts_ireti C (Nat.zero_le _) (Nat.zero_le _) dX12_proposes_23
def wX12_propose (p1 : Int) (Q : Int → ts_M → Prop) (M : ts_M) : Prop :=
  (∀ M1, M1 = ts_si M 164 0 0 → (wX12_notPropose p1 (fun r3 M2 => (∀ x4 : Int, x4 = r3 → ((ts_w x4 = 0 → (wX12_remembers  (fun M5 => (wX12_proposes p1 (fun r7 M6 => Q r7 M6) M5)) M2)) ∧ (¬ (ts_w x4 = 0) → (wX12_fails x4 (fun r9 M8 => Q r9 M8) M2))))) M1))
set_option maxRecDepth 100000 in
set_option maxHeartbeats 4000000 in
theorem mX12_propose {l : Launch} {g : ts_W} (hl : l.stackTraces = false) {p1 : Int} {Q : Int → ts_M → Prop} {M : ts_M} : wX12_propose p1 Q M → ts_Con l g yX12_propose cX12_propose 3 (some .int) 2 0 0 [.ref (ts_ad g 164), ts_v p1] M (ts_Ri Q) := by
  intro h0
  refine ts_Con.of hl (by decide) (Nat.le_of_ble_eq_true rfl) ?_
  intro p e s m args below meth c C
  revert h0
  unfold wX12_propose
  have hl0 : lv_args 0 [.ref (ts_ad g 164), ts_v p1] = [(0, .ref (ts_ad g 164)), (1, ts_v p1)] := rfl
  rw [hl0]
  refine ts_aload_n C dX12_propose_0 rfl 0 rfl ?_
  refine ts_iconst C dX12_propose_1 0 rfl ?_
  refine tpX12_0 C q_1958 dX12_propose_2 (fun M1 => ?_)
  refine ts_aload_n C dX12_propose_5 rfl 0 rfl ?_
  refine ts_iload_n C dX12_propose_6 rfl 1 rfl ?_
  refine ts_callVi C [ts_v p1] (mX12_notPropose hl) kX12_notPropose q_2065 (by decide) shX12 rfl rfl rfl (Nat.le_of_ble_eq_true rfl) ⟨Nat.le_of_ble_eq_true rfl, Nat.le_of_ble_eq_true rfl⟩ ⟨Nat.le_of_ble_eq_true rfl, Nat.le_of_ble_eq_true rfl⟩ dX12_propose_7 (fun r3 M2 => ?_)
  refine ts_istore_n C dX12_propose_10 rfl (by decide) (lv' := fun x4 => [(2, ts_v x4), (0, .ref (ts_ad g 164)), (1, ts_v p1)]) (fun _ => rfl) (fun x4 => ?_)
  refine ts_iload_n C dX12_propose_11 rfl 0 rfl ?_
  refine ts_cm0_eq C rfl 21 dX12_propose_12 rfl ?_ ?_
  · refine ts_aload_n C dX12_propose_21 rfl 1 rfl ?_
    refine ts_callVv C [] (mX12_remembers hl) kX12_remembers q_2041 (by decide) shX12 rfl rfl rfl (Nat.le_of_ble_eq_true rfl) ⟨Nat.le_of_ble_eq_true rfl, Nat.le_of_ble_eq_true rfl⟩ ⟨Nat.le_of_ble_eq_true rfl, Nat.le_of_ble_eq_true rfl⟩ dX12_propose_22 (fun M5 => ?_)
    refine ts_aload_n C dX12_propose_25 rfl 1 rfl ?_
    refine ts_iload_n C dX12_propose_26 rfl 2 rfl ?_
    refine ts_callVi C [ts_v p1] (mX12_proposes hl) kX12_proposes q_2069 (by decide) shX12 rfl rfl rfl (Nat.le_of_ble_eq_true rfl) ⟨Nat.le_of_ble_eq_true rfl, Nat.le_of_ble_eq_true rfl⟩ ⟨Nat.le_of_ble_eq_true rfl, Nat.le_of_ble_eq_true rfl⟩ dX12_propose_27 (fun r7 M6 => ?_)
    exact ts_ireti C (Nat.zero_le _) (Nat.zero_le _) dX12_propose_30
  · refine ts_aload_n C dX12_propose_15 rfl 1 rfl ?_
    refine ts_iload_n C dX12_propose_16 rfl 0 rfl ?_
    refine ts_callVi C [ts_v x4] (mX12_fails hl) kX12_fails q_2037 (by decide) shX12 rfl rfl rfl (Nat.le_of_ble_eq_true rfl) ⟨Nat.le_of_ble_eq_true rfl, Nat.le_of_ble_eq_true rfl⟩ ⟨Nat.le_of_ble_eq_true rfl, Nat.le_of_ble_eq_true rfl⟩ dX12_propose_17 (fun r9 M8 => ?_)
    exact ts_ireti C (Nat.zero_le _) (Nat.zero_le _) dX12_propose_20
def wX12_takesOff_L29   (Q : ts_M → Prop) (k29 : Int → Int → ts_M → Prop) (y2 : Int) (y3 : Int) (M : ts_M) : Prop :=
  ((ts_w y2 ≤ ts_w y3 → ((0 ≤ ts_w y2 ∧ ts_w y2 < ((146 : Nat) : Int)) ∧ ∀ M4, M4 = ts_si M 165 (ts_w y2) 0 → ((0 ≤ ts_w (y2 + 1) ∧ ts_w (y2 + 1) < ((146 : Nat) : Int)) ∧ ∀ M5, M5 = ts_si M4 165 (ts_w (y2 + 1)) 0 → Q M5))) ∧ (¬ (ts_w y2 ≤ ts_w y3) → ((0 ≤ ts_w (y3 + 2) ∧ ts_w (y3 + 2) < ((146 : Nat) : Int)) ∧ ((0 ≤ ts_w y3 ∧ ts_w y3 < ((146 : Nat) : Int)) ∧ ∀ M6, M6 = ts_si M 165 (ts_w y3) (M.1 165 (ts_w (y3 + 2))) → (∀ x7 : Int, x7 = y3 + 1 → k29 y2 x7 M6)))))
def wX12_takesOff (p1 : Int) (Q : ts_M → Prop) (M : ts_M) : Prop :=
  (∀ M1, M1 = ts_si M 165 1 ((M.1 165 1) - 1) → (∀ x2 : Int, x2 = 43 + (2 * (M1.1 165 1)) → (∀ x3 : Int, x3 = 43 + (2 * p1) → ∃ n, ts_lp2 (wX12_takesOff_L29 Q) n x2 x3 M1)))
set_option maxRecDepth 100000 in
set_option maxHeartbeats 4000000 in
theorem mX12_takesOff {l : Launch} {g : ts_W} (hl : l.stackTraces = false) {p1 : Int} {Q : ts_M → Prop} {M : ts_M} : wX12_takesOff p1 Q M → ts_Con l g yX12_takesOff cX12_takesOff 4 none 0 0 0 [.ref (ts_ad g 164), ts_v p1] M (ts_Rv Q) := by
  intro h0
  refine ts_Con.of hl (by decide) (Nat.le_of_ble_eq_true rfl) ?_
  intro p e s m args below meth c C
  have H29 : ∀ (n : Nat) (y2 : Int) (y3 : Int) (M : ts_M), ts_lp2 (wX12_takesOff_L29   Q) n y2 y3 M → ts_V p l e (ts_rm 0 0 0) s m args below meth c g 4 0 0 (MQ below (ts_Q g (ts_Rv Q)) args s 0 0 (ts_A g)) 29 [(0, .ref (ts_ad g 164)), (2, ts_v y2), (3, ts_v y3)] [] M := by
    refine ts_lpr2 (V := fun (y2 : Int) (y3 : Int) (M : ts_M) => ts_V p l e (ts_rm 0 0 0) s m args below meth c g 4 0 0 (MQ below (ts_Q g (ts_Rv Q)) args s 0 0 (ts_A g)) 29 [(0, .ref (ts_ad g 164)), (2, ts_v y2), (3, ts_v y3)] [] M) ?_
    intro k29 hk29 y2 y3 M
    unfold wX12_takesOff_L29
    refine ts_iload_n C dX12_takesOff_29 rfl 2 rfl ?_
    refine ts_iload_n C dX12_takesOff_30 rfl 1 rfl ?_
    refine ts_cmp_ge C rfl rfl 54 dX12_takesOff_31 rfl ?_ ?_
    · refine ts_aload_n C dX12_takesOff_54 rfl 0 rfl ?_
      refine tgX12_1 C q_1959 dX12_takesOff_55 ?_
      refine ts_iload_n C dX12_takesOff_58 rfl 1 rfl ?_
      refine ts_iconst C dX12_takesOff_59 0 rfl ?_
      refine ts_iast C (by decide) shG165 dX12_takesOff_60 (fun M4 => ?_)
      refine ts_aload_n C dX12_takesOff_61 rfl 0 rfl ?_
      refine tgX12_1 C q_1959 dX12_takesOff_62 ?_
      refine ts_iload_n C dX12_takesOff_65 rfl 1 rfl ?_
      refine ts_iconst C dX12_takesOff_66 1 rfl ?_
      refine ts_iadd C dX12_takesOff_67 ?_
      refine ts_iconst C dX12_takesOff_68 0 rfl ?_
      refine ts_iast C (by decide) shG165 dX12_takesOff_69 (fun M5 => ?_)
      exact ts_vreti C (Nat.zero_le _) (Nat.zero_le _) dX12_takesOff_70
    · refine ts_aload_n C dX12_takesOff_34 rfl 0 rfl ?_
      refine tgX12_1 C q_1959 dX12_takesOff_35 ?_
      refine ts_iload_n C dX12_takesOff_38 rfl 2 rfl ?_
      refine ts_aload_n C dX12_takesOff_39 rfl 0 rfl ?_
      refine tgX12_1 C q_1959 dX12_takesOff_40 ?_
      refine ts_iload_n C dX12_takesOff_43 rfl 2 rfl ?_
      refine ts_iconst C dX12_takesOff_44 2 rfl ?_
      refine ts_iadd C dX12_takesOff_45 ?_
      refine ts_iald C (by decide) shG165 dX12_takesOff_46 ?_
      refine ts_iast C (by decide) shG165 dX12_takesOff_47 (fun M6 => ?_)
      refine ts_iinc C dX12_takesOff_48 2 rfl (by decide) (lv' := fun x7 => [(3, ts_v x7), (0, .ref (ts_ad g 164)), (2, ts_v y2)]) (fun _ => rfl) (fun x7 => ?_)
      refine ts_goto C 29 dX12_takesOff_51 rfl ?_
      exact ts_sub [1, 2, 0] rfl (hk29 _ _ _)
  revert h0
  unfold wX12_takesOff
  have hl0 : lv_args 0 [.ref (ts_ad g 164), ts_v p1] = [(0, .ref (ts_ad g 164)), (1, ts_v p1)] := rfl
  rw [hl0]
  refine ts_aload_n C dX12_takesOff_0 rfl 0 rfl ?_
  refine tgX12_1 C q_1959 dX12_takesOff_1 ?_
  refine ts_iconst C dX12_takesOff_4 1 rfl ?_
  refine ts_dup2 C dX12_takesOff_5 rfl rfl ?_
  refine ts_ialdc C (by decide) shG165 tw_1 (by decide) dX12_takesOff_6 ?_
  refine ts_iconst C dX12_takesOff_7 1 rfl ?_
  refine ts_isub C dX12_takesOff_8 ?_
  refine ts_iastc C (by decide) shG165 tw_1 (by decide) dX12_takesOff_9 (fun M1 => ?_)
  refine ts_bipush C dX12_takesOff_10 43 tb_43 ?_
  refine ts_iconst C dX12_takesOff_12 2 rfl ?_
  refine ts_aload_n C dX12_takesOff_13 rfl 0 rfl ?_
  refine tgX12_1 C q_1959 dX12_takesOff_14 ?_
  refine ts_iconst C dX12_takesOff_17 1 rfl ?_
  refine ts_ialdc C (by decide) shG165 tw_1 (by decide) dX12_takesOff_18 ?_
  refine ts_imul C dX12_takesOff_19 ?_
  refine ts_iadd C dX12_takesOff_20 ?_
  refine ts_istore_n C dX12_takesOff_21 rfl (by decide) (lv' := fun x2 => [(2, ts_v x2), (0, .ref (ts_ad g 164)), (1, ts_v p1)]) (fun _ => rfl) (fun x2 => ?_)
  refine ts_bipush C dX12_takesOff_22 43 tb_43 ?_
  refine ts_iconst C dX12_takesOff_24 2 rfl ?_
  refine ts_iload_n C dX12_takesOff_25 rfl 2 rfl ?_
  refine ts_imul C dX12_takesOff_26 ?_
  refine ts_iadd C dX12_takesOff_27 ?_
  refine ts_istore_n C dX12_takesOff_28 rfl (by decide) (lv' := fun x3 => [(3, ts_v x3), (2, ts_v x2), (0, .ref (ts_ad g 164)), (1, ts_v p1)]) (fun _ => rfl) (fun x3 => ?_)
  rintro ⟨n, hn⟩
  exact ts_sub [2, 1, 0] rfl (H29 n _ _ _) hn
def wX12_top_B29   (Q : Int → ts_M → Prop)  (z0 : Int) (M : ts_M) : Prop :=
  Q z0 M
def wX12_top (Q : Int → ts_M → Prop) (M : ts_M) : Prop :=
  ((¬ (ts_w (M.1 165 3) = 0) → ((0 ≤ ts_w ((55 + (M.1 165 3)) - 1) ∧ ts_w ((55 + (M.1 165 3)) - 1) < ((146 : Nat) : Int)) ∧ wX12_top_B29 Q (M.1 165 (ts_w ((55 + (M.1 165 3)) - 1))) M)) ∧ (ts_w (M.1 165 3) = 0 → wX12_top_B29 Q (-1) M))
set_option maxRecDepth 100000 in
set_option maxHeartbeats 4000000 in
theorem mX12_top {l : Launch} {g : ts_W} (hl : l.stackTraces = false) {Q : Int → ts_M → Prop} {M : ts_M} : wX12_top Q M → ts_Con l g yX12_top cX12_top 1 (some .int) 0 0 0 [.ref (ts_ad g 164)] M (ts_Ri Q) := by
  intro h0
  refine ts_Con.of hl (by decide) (Nat.le_of_ble_eq_true rfl) ?_
  intro p e s m args below meth c C
  have H29 : ∀ (z0 : Int) (M : ts_M), wX12_top_B29   Q z0 M → ts_V p l e (ts_rm 0 0 0) s m args below meth c g 1 0 0 (MQ below (ts_Q g (ts_Ri Q)) args s 0 0 (ts_A g)) 29 [] [ts_v z0] M := by
    intro  z0 M
    unfold wX12_top_B29
    exact ts_ireti C (Nat.zero_le _) (Nat.zero_le _) dX12_top_29
  revert h0
  unfold wX12_top
  have hl0 : lv_args 0 [.ref (ts_ad g 164)] = [(0, .ref (ts_ad g 164))] := rfl
  rw [hl0]
  refine ts_aload_n C dX12_top_0 rfl 0 rfl ?_
  refine tgX12_1 C q_1959 dX12_top_1 ?_
  refine ts_iconst C dX12_top_4 3 rfl ?_
  refine ts_ialdc C (by decide) shG165 tw_3 (by decide) dX12_top_5 ?_
  refine ts_cm0_ne C rfl 13 dX12_top_6 rfl ?_ ?_
  · refine ts_aload_n C dX12_top_13 rfl 0 rfl ?_
    refine tgX12_1 C q_1959 dX12_top_14 ?_
    refine ts_bipush C dX12_top_17 55 tb_55 ?_
    refine ts_aload_n C dX12_top_19 rfl 0 rfl ?_
    refine tgX12_1 C q_1959 dX12_top_20 ?_
    refine ts_iconst C dX12_top_23 3 rfl ?_
    refine ts_ialdc C (by decide) shG165 tw_3 (by decide) dX12_top_24 ?_
    refine ts_iadd C dX12_top_25 ?_
    refine ts_iconst C dX12_top_26 1 rfl ?_
    refine ts_isub C dX12_top_27 ?_
    refine ts_iald C (by decide) shG165 dX12_top_28 ?_
    exact ts_sub [] rfl (H29 _ _)
  · refine ts_iconst C dX12_top_9 (-1) rfl ?_
    refine ts_goto C 29 dX12_top_10 rfl ?_
    exact ts_sub [] rfl (H29 _ _)
def wX12_canMake_B66   (Q : Int → ts_M → Prop)  (z0 : Int) (M : ts_M) : Prop :=
  ((ts_w z0 = 0 ∨ ts_w z0 = 1) ∧ Q z0 M)
def wX12_canMake_B65   (Q : Int → ts_M → Prop)   (M : ts_M) : Prop :=
  wX12_canMake_B66 Q 0 M
def wX12_canMake_B61   (Q : Int → ts_M → Prop)   (M : ts_M) : Prop :=
  wX12_canMake_B66 Q 1 M
def wX12_canMake_B38   (Q : Int → ts_M → Prop)  (z0 : Int) (M : ts_M) : Prop :=
  ((ts_w z0 = 0 ∨ ts_w z0 = 1) ∧ Q z0 M)
def wX12_canMake_B18   (Q : Int → ts_M → Prop)  (z0 : Int) (M : ts_M) : Prop :=
  ((ts_w z0 = 0 ∨ ts_w z0 = 1) ∧ Q z0 M)
def wX12_canMake (p1 : Int) (Q : Int → ts_M → Prop) (M : ts_M) : Prop :=
  ((¬ (ts_w p1 = 0) → ((¬ (ts_w (M.1 165 3) = 0) → (wX12_top  (fun r2 M1 => ((ts_w p1 ≤ ts_w r2 → wX12_canMake_B65 Q M1) ∧ (¬ (ts_w p1 ≤ ts_w r2) → ((¬ (ts_w p1 = 1) → wX12_canMake_B61 Q M1) ∧ (ts_w p1 = 1 → ((¬ (ts_w (M1.1 165 4) = 0) → wX12_canMake_B65 Q M1) ∧ (ts_w (M1.1 165 4) = 0 → wX12_canMake_B61 Q M1))))))) M)) ∧ (ts_w (M.1 165 3) = 0 → ((¬ (ts_w p1 = 4) → wX12_canMake_B38 Q 0 M) ∧ (ts_w p1 = 4 → wX12_canMake_B38 Q 1 M))))) ∧ (ts_w p1 = 0 → ((¬ (ts_w (M.1 165 3) = 0) → wX12_canMake_B18 Q 0 M) ∧ (ts_w (M.1 165 3) = 0 → wX12_canMake_B18 Q 1 M))))
set_option maxRecDepth 100000 in
set_option maxHeartbeats 4000000 in
theorem mX12_canMake {l : Launch} {g : ts_W} (hl : l.stackTraces = false) {p1 : Int} {Q : Int → ts_M → Prop} {M : ts_M} : wX12_canMake p1 Q M → ts_Con l g yX12_canMake cX12_canMake 2 (some .boolean) 1 0 0 [.ref (ts_ad g 164), ts_v p1] M (ts_Ri Q) := by
  intro h0
  refine ts_Con.of hl (by decide) (Nat.le_of_ble_eq_true rfl) ?_
  intro p e s m args below meth c C
  have H66 : ∀ (z0 : Int) (M : ts_M), wX12_canMake_B66   Q z0 M → ts_V p l e (ts_rm 1 0 0) s m args below meth c g 2 0 0 (MQ below (ts_Q g (ts_Ri Q)) args s 0 0 (ts_A g)) 66 [] [ts_v z0] M := by
    intro  z0 M
    unfold wX12_canMake_B66
    exact ts_zreti C (Nat.zero_le _) (Nat.zero_le _) dX12_canMake_66
  have H65 : ∀  (M : ts_M), wX12_canMake_B65   Q  M → ts_V p l e (ts_rm 1 0 0) s m args below meth c g 2 0 0 (MQ below (ts_Q g (ts_Ri Q)) args s 0 0 (ts_A g)) 65 [] [] M := by
    intro   M
    unfold wX12_canMake_B65
    refine ts_iconst C dX12_canMake_65 0 rfl ?_
    exact ts_sub [] rfl (H66 _ _)
  have H61 : ∀  (M : ts_M), wX12_canMake_B61   Q  M → ts_V p l e (ts_rm 1 0 0) s m args below meth c g 2 0 0 (MQ below (ts_Q g (ts_Ri Q)) args s 0 0 (ts_A g)) 61 [] [] M := by
    intro   M
    unfold wX12_canMake_B61
    refine ts_iconst C dX12_canMake_61 1 rfl ?_
    refine ts_goto C 66 dX12_canMake_62 rfl ?_
    exact ts_sub [] rfl (H66 _ _)
  have H38 : ∀ (z0 : Int) (M : ts_M), wX12_canMake_B38   Q z0 M → ts_V p l e (ts_rm 1 0 0) s m args below meth c g 2 0 0 (MQ below (ts_Q g (ts_Ri Q)) args s 0 0 (ts_A g)) 38 [] [ts_v z0] M := by
    intro  z0 M
    unfold wX12_canMake_B38
    exact ts_zreti C (Nat.zero_le _) (Nat.zero_le _) dX12_canMake_38
  have H18 : ∀ (z0 : Int) (M : ts_M), wX12_canMake_B18   Q z0 M → ts_V p l e (ts_rm 1 0 0) s m args below meth c g 2 0 0 (MQ below (ts_Q g (ts_Ri Q)) args s 0 0 (ts_A g)) 18 [] [ts_v z0] M := by
    intro  z0 M
    unfold wX12_canMake_B18
    exact ts_zreti C (Nat.zero_le _) (Nat.zero_le _) dX12_canMake_18
  revert h0
  unfold wX12_canMake
  have hl0 : lv_args 0 [.ref (ts_ad g 164), ts_v p1] = [(0, .ref (ts_ad g 164)), (1, ts_v p1)] := rfl
  rw [hl0]
  refine ts_iload_n C dX12_canMake_0 rfl 1 rfl ?_
  refine ts_cm0_ne C rfl 19 dX12_canMake_1 rfl ?_ ?_
  · refine ts_aload_n C dX12_canMake_19 rfl 0 rfl ?_
    refine tgX12_1 C q_1959 dX12_canMake_20 ?_
    refine ts_iconst C dX12_canMake_23 3 rfl ?_
    refine ts_ialdc C (by decide) shG165 tw_3 (by decide) dX12_canMake_24 ?_
    refine ts_cm0_ne C rfl 39 dX12_canMake_25 rfl ?_ ?_
    · refine ts_iload_n C dX12_canMake_39 rfl 1 rfl ?_
      refine ts_aload_n C dX12_canMake_40 rfl 0 rfl ?_
      refine ts_callVi C [] (mX12_top hl) kX12_top q_2097 (by decide) shX12 rfl rfl rfl (Nat.le_of_ble_eq_true rfl) ⟨Nat.le_of_ble_eq_true rfl, Nat.le_of_ble_eq_true rfl⟩ ⟨Nat.le_of_ble_eq_true rfl, Nat.le_of_ble_eq_true rfl⟩ dX12_canMake_41 (fun r2 M1 => ?_)
      refine ts_cmp_le C rfl rfl 65 dX12_canMake_44 rfl ?_ ?_
      · exact ts_sub [] rfl (H65 _)
      · refine ts_iload_n C dX12_canMake_47 rfl 1 rfl ?_
        refine ts_iconst C dX12_canMake_48 1 rfl ?_
        refine ts_cmp_ne C rfl tw_1 61 dX12_canMake_49 rfl ?_ ?_
        · exact ts_sub [] rfl (H61 _)
        · refine ts_aload_n C dX12_canMake_52 rfl 0 rfl ?_
          refine tgX12_1 C q_1959 dX12_canMake_53 ?_
          refine ts_iconst C dX12_canMake_56 4 rfl ?_
          refine ts_ialdc C (by decide) shG165 tw_4 (by decide) dX12_canMake_57 ?_
          refine ts_cm0_ne C rfl 65 dX12_canMake_58 rfl ?_ ?_
          · exact ts_sub [] rfl (H65 _)
          · exact ts_sub [] rfl (H61 _)
    · refine ts_iload_n C dX12_canMake_28 rfl 1 rfl ?_
      refine ts_iconst C dX12_canMake_29 4 rfl ?_
      refine ts_cmp_ne C rfl tw_4 37 dX12_canMake_30 rfl ?_ ?_
      · refine ts_iconst C dX12_canMake_37 0 rfl ?_
        exact ts_sub [] rfl (H38 _ _)
      · refine ts_iconst C dX12_canMake_33 1 rfl ?_
        refine ts_goto C 38 dX12_canMake_34 rfl ?_
        exact ts_sub [] rfl (H38 _ _)
  · refine ts_aload_n C dX12_canMake_4 rfl 0 rfl ?_
    refine tgX12_1 C q_1959 dX12_canMake_5 ?_
    refine ts_iconst C dX12_canMake_8 3 rfl ?_
    refine ts_ialdc C (by decide) shG165 tw_3 (by decide) dX12_canMake_9 ?_
    refine ts_cm0_ne C rfl 17 dX12_canMake_10 rfl ?_ ?_
    · refine ts_iconst C dX12_canMake_17 0 rfl ?_
      exact ts_sub [] rfl (H18 _ _)
    · refine ts_iconst C dX12_canMake_13 1 rfl ?_
      refine ts_goto C 18 dX12_canMake_14 rfl ?_
      exact ts_sub [] rfl (H18 _ _)
def wX12_makes (p1 : Int) (Q : Int → ts_M → Prop) (M : ts_M) : Prop :=
  ((0 ≤ ts_w (55 + (M.1 165 3)) ∧ ts_w (55 + (M.1 165 3)) < ((146 : Nat) : Int)) ∧ ∀ M1, M1 = ts_si M 165 (ts_w (55 + (M.1 165 3))) p1 → (∀ M2, M2 = ts_si M1 165 3 ((M1.1 165 3) + 1) → Q (M2.1 165 3) M2))
set_option maxRecDepth 100000 in
set_option maxHeartbeats 4000000 in
theorem mX12_makes {l : Launch} {g : ts_W} (hl : l.stackTraces = false) {p1 : Int} {Q : Int → ts_M → Prop} {M : ts_M} : wX12_makes p1 Q M → ts_Con l g yX12_makes cX12_makes 2 (some .int) 0 0 0 [.ref (ts_ad g 164), ts_v p1] M (ts_Ri Q) := by
  intro h0
  refine ts_Con.of hl (by decide) (Nat.le_of_ble_eq_true rfl) ?_
  intro p e s m args below meth c C
  revert h0
  unfold wX12_makes
  have hl0 : lv_args 0 [.ref (ts_ad g 164), ts_v p1] = [(0, .ref (ts_ad g 164)), (1, ts_v p1)] := rfl
  rw [hl0]
  refine ts_aload_n C dX12_makes_0 rfl 0 rfl ?_
  refine tgX12_1 C q_1959 dX12_makes_1 ?_
  refine ts_bipush C dX12_makes_4 55 tb_55 ?_
  refine ts_aload_n C dX12_makes_6 rfl 0 rfl ?_
  refine tgX12_1 C q_1959 dX12_makes_7 ?_
  refine ts_iconst C dX12_makes_10 3 rfl ?_
  refine ts_ialdc C (by decide) shG165 tw_3 (by decide) dX12_makes_11 ?_
  refine ts_iadd C dX12_makes_12 ?_
  refine ts_iload_n C dX12_makes_13 rfl 1 rfl ?_
  refine ts_iast C (by decide) shG165 dX12_makes_14 (fun M1 => ?_)
  refine ts_aload_n C dX12_makes_15 rfl 0 rfl ?_
  refine tgX12_1 C q_1959 dX12_makes_16 ?_
  refine ts_iconst C dX12_makes_19 3 rfl ?_
  refine ts_dup2 C dX12_makes_20 rfl rfl ?_
  refine ts_ialdc C (by decide) shG165 tw_3 (by decide) dX12_makes_21 ?_
  refine ts_iconst C dX12_makes_22 1 rfl ?_
  refine ts_iadd C dX12_makes_23 ?_
  refine ts_iastc C (by decide) shG165 tw_3 (by decide) dX12_makes_24 (fun M2 => ?_)
  refine ts_aload_n C dX12_makes_25 rfl 0 rfl ?_
  refine tgX12_1 C q_1959 dX12_makes_26 ?_
  refine ts_iconst C dX12_makes_29 3 rfl ?_
  refine ts_ialdc C (by decide) shG165 tw_3 (by decide) dX12_makes_30 ?_
  exact ts_ireti C (Nat.zero_le _) (Nat.zero_le _) dX12_makes_31
def wX12_notMain_B23   (Q : Int → ts_M → Prop)  (z0 : Int) (M : ts_M) : Prop :=
  Q z0 M
def wX12_notMain (p1 : Int) (Q : Int → ts_M → Prop) (M : ts_M) : Prop :=
  (wX12_place p1 (fun r2 M1 => ((0 ≤ ts_w r2 → (wX12_canMake 0 (fun r4 M3 => ((ts_w r4 = 0 → wX12_notMain_B23 Q 2 M3) ∧ (¬ (ts_w r4 = 0) → wX12_notMain_B23 Q 0 M3))) M1)) ∧ (¬ (0 ≤ ts_w r2) → Q 1 M1))) M)
set_option maxRecDepth 100000 in
set_option maxHeartbeats 4000000 in
theorem mX12_notMain {l : Launch} {g : ts_W} (hl : l.stackTraces = false) {p1 : Int} {Q : Int → ts_M → Prop} {M : ts_M} : wX12_notMain p1 Q M → ts_Con l g yX12_notMain cX12_notMain 2 (some .int) 2 0 0 [.ref (ts_ad g 164), ts_v p1] M (ts_Ri Q) := by
  intro h0
  refine ts_Con.of hl (by decide) (Nat.le_of_ble_eq_true rfl) ?_
  intro p e s m args below meth c C
  have H23 : ∀ (z0 : Int) (M : ts_M), wX12_notMain_B23   Q z0 M → ts_V p l e (ts_rm 2 0 0) s m args below meth c g 2 0 0 (MQ below (ts_Q g (ts_Ri Q)) args s 0 0 (ts_A g)) 23 [] [ts_v z0] M := by
    intro  z0 M
    unfold wX12_notMain_B23
    exact ts_ireti C (Nat.zero_le _) (Nat.zero_le _) dX12_notMain_23
  revert h0
  unfold wX12_notMain
  have hl0 : lv_args 0 [.ref (ts_ad g 164), ts_v p1] = [(0, .ref (ts_ad g 164)), (1, ts_v p1)] := rfl
  rw [hl0]
  refine ts_aload_n C dX12_notMain_0 rfl 0 rfl ?_
  refine ts_iload_n C dX12_notMain_1 rfl 1 rfl ?_
  refine ts_callVi C [ts_v p1] (mX12_place hl) kX12_place q_2085 (by decide) shX12 rfl rfl rfl (Nat.le_of_ble_eq_true rfl) ⟨Nat.le_of_ble_eq_true rfl, Nat.le_of_ble_eq_true rfl⟩ ⟨Nat.le_of_ble_eq_true rfl, Nat.le_of_ble_eq_true rfl⟩ dX12_notMain_2 (fun r2 M1 => ?_)
  refine ts_cm0_ge C rfl 10 dX12_notMain_5 rfl ?_ ?_
  · refine ts_aload_n C dX12_notMain_10 rfl 0 rfl ?_
    refine ts_iconst C dX12_notMain_11 0 rfl ?_
    refine ts_callVi C [ts_v 0] (mX12_canMake hl) kX12_canMake q_2093 (by decide) shX12 rfl rfl rfl (Nat.le_of_ble_eq_true rfl) ⟨Nat.le_of_ble_eq_true rfl, Nat.le_of_ble_eq_true rfl⟩ ⟨Nat.le_of_ble_eq_true rfl, Nat.le_of_ble_eq_true rfl⟩ dX12_notMain_12 (fun r4 M3 => ?_)
    refine ts_cm0_eq C rfl 22 dX12_notMain_15 rfl ?_ ?_
    · refine ts_iconst C dX12_notMain_22 2 rfl ?_
      exact ts_sub [] rfl (H23 _ _)
    · refine ts_iconst C dX12_notMain_18 0 rfl ?_
      refine ts_goto C 23 dX12_notMain_19 rfl ?_
      exact ts_sub [] rfl (H23 _ _)
  · refine ts_iconst C dX12_notMain_8 1 rfl ?_
    exact ts_ireti C (Nat.zero_le _) (Nat.zero_le _) dX12_notMain_9
def wX12_makesMain (p1 : Int) (Q : Int → ts_M → Prop) (M : ts_M) : Prop :=
  (∀ M1, M1 = ts_si M 165 60 p1 → (wX12_makes 0 (fun r3 M2 => Q r3 M2) M1))
set_option maxRecDepth 100000 in
set_option maxHeartbeats 4000000 in
theorem mX12_makesMain {l : Launch} {g : ts_W} (hl : l.stackTraces = false) {p1 : Int} {Q : Int → ts_M → Prop} {M : ts_M} : wX12_makesMain p1 Q M → ts_Con l g yX12_makesMain cX12_makesMain 2 (some .int) 1 0 0 [.ref (ts_ad g 164), ts_v p1] M (ts_Ri Q) := by
  intro h0
  refine ts_Con.of hl (by decide) (Nat.le_of_ble_eq_true rfl) ?_
  intro p e s m args below meth c C
  revert h0
  unfold wX12_makesMain
  have hl0 : lv_args 0 [.ref (ts_ad g 164), ts_v p1] = [(0, .ref (ts_ad g 164)), (1, ts_v p1)] := rfl
  rw [hl0]
  refine ts_aload_n C dX12_makesMain_0 rfl 0 rfl ?_
  refine tgX12_1 C q_1959 dX12_makesMain_1 ?_
  refine ts_bipush C dX12_makesMain_4 60 tb_60 ?_
  refine ts_iload_n C dX12_makesMain_6 rfl 1 rfl ?_
  refine ts_iastc C (by decide) shG165 tw_60 (by decide) dX12_makesMain_7 (fun M1 => ?_)
  refine ts_aload_n C dX12_makesMain_8 rfl 0 rfl ?_
  refine ts_iconst C dX12_makesMain_9 0 rfl ?_
  refine ts_callVi C [ts_v 0] (mX12_makes hl) kX12_makes q_2105 (by decide) shX12 rfl rfl rfl (Nat.le_of_ble_eq_true rfl) ⟨Nat.le_of_ble_eq_true rfl, Nat.le_of_ble_eq_true rfl⟩ ⟨Nat.le_of_ble_eq_true rfl, Nat.le_of_ble_eq_true rfl⟩ dX12_makesMain_10 (fun r3 M2 => ?_)
  exact ts_ireti C (Nat.zero_le _) (Nat.zero_le _) dX12_makesMain_13
def wX12_moveMain (p1 : Int) (Q : Int → ts_M → Prop) (M : ts_M) : Prop :=
  (∀ M1, M1 = ts_si M 164 0 0 → (wX12_notMain p1 (fun r3 M2 => (∀ x4 : Int, x4 = r3 → ((ts_w x4 = 0 → (wX12_remembers  (fun M5 => (wX12_makesMain p1 (fun r7 M6 => Q r7 M6) M5)) M2)) ∧ (¬ (ts_w x4 = 0) → (wX12_fails x4 (fun r9 M8 => Q r9 M8) M2))))) M1))
set_option maxRecDepth 100000 in
set_option maxHeartbeats 4000000 in
theorem mX12_moveMain {l : Launch} {g : ts_W} (hl : l.stackTraces = false) {p1 : Int} {Q : Int → ts_M → Prop} {M : ts_M} : wX12_moveMain p1 Q M → ts_Con l g yX12_moveMain cX12_moveMain 3 (some .int) 3 0 0 [.ref (ts_ad g 164), ts_v p1] M (ts_Ri Q) := by
  intro h0
  refine ts_Con.of hl (by decide) (Nat.le_of_ble_eq_true rfl) ?_
  intro p e s m args below meth c C
  revert h0
  unfold wX12_moveMain
  have hl0 : lv_args 0 [.ref (ts_ad g 164), ts_v p1] = [(0, .ref (ts_ad g 164)), (1, ts_v p1)] := rfl
  rw [hl0]
  refine ts_aload_n C dX12_moveMain_0 rfl 0 rfl ?_
  refine ts_iconst C dX12_moveMain_1 0 rfl ?_
  refine tpX12_0 C q_1958 dX12_moveMain_2 (fun M1 => ?_)
  refine ts_aload_n C dX12_moveMain_5 rfl 0 rfl ?_
  refine ts_iload_n C dX12_moveMain_6 rfl 1 rfl ?_
  refine ts_callVi C [ts_v p1] (mX12_notMain hl) kX12_notMain q_2081 (by decide) shX12 rfl rfl rfl (Nat.le_of_ble_eq_true rfl) ⟨Nat.le_of_ble_eq_true rfl, Nat.le_of_ble_eq_true rfl⟩ ⟨Nat.le_of_ble_eq_true rfl, Nat.le_of_ble_eq_true rfl⟩ dX12_moveMain_7 (fun r3 M2 => ?_)
  refine ts_istore_n C dX12_moveMain_10 rfl (by decide) (lv' := fun x4 => [(2, ts_v x4), (0, .ref (ts_ad g 164)), (1, ts_v p1)]) (fun _ => rfl) (fun x4 => ?_)
  refine ts_iload_n C dX12_moveMain_11 rfl 0 rfl ?_
  refine ts_cm0_eq C rfl 21 dX12_moveMain_12 rfl ?_ ?_
  · refine ts_aload_n C dX12_moveMain_21 rfl 1 rfl ?_
    refine ts_callVv C [] (mX12_remembers hl) kX12_remembers q_2041 (by decide) shX12 rfl rfl rfl (Nat.le_of_ble_eq_true rfl) ⟨Nat.le_of_ble_eq_true rfl, Nat.le_of_ble_eq_true rfl⟩ ⟨Nat.le_of_ble_eq_true rfl, Nat.le_of_ble_eq_true rfl⟩ dX12_moveMain_22 (fun M5 => ?_)
    refine ts_aload_n C dX12_moveMain_25 rfl 1 rfl ?_
    refine ts_iload_n C dX12_moveMain_26 rfl 2 rfl ?_
    refine ts_callVi C [ts_v p1] (mX12_makesMain hl) kX12_makesMain q_2101 (by decide) shX12 rfl rfl rfl (Nat.le_of_ble_eq_true rfl) ⟨Nat.le_of_ble_eq_true rfl, Nat.le_of_ble_eq_true rfl⟩ ⟨Nat.le_of_ble_eq_true rfl, Nat.le_of_ble_eq_true rfl⟩ dX12_moveMain_27 (fun r7 M6 => ?_)
    exact ts_ireti C (Nat.zero_le _) (Nat.zero_le _) dX12_moveMain_30
  · refine ts_aload_n C dX12_moveMain_15 rfl 1 rfl ?_
    refine ts_iload_n C dX12_moveMain_16 rfl 0 rfl ?_
    refine ts_callVi C [ts_v x4] (mX12_fails hl) kX12_fails q_2037 (by decide) shX12 rfl rfl rfl (Nat.le_of_ble_eq_true rfl) ⟨Nat.le_of_ble_eq_true rfl, Nat.le_of_ble_eq_true rfl⟩ ⟨Nat.le_of_ble_eq_true rfl, Nat.le_of_ble_eq_true rfl⟩ dX12_moveMain_17 (fun r9 M8 => ?_)
    exact ts_ireti C (Nat.zero_le _) (Nat.zero_le _) dX12_moveMain_20
def wX12_notAmend_B26   (Q : Int → ts_M → Prop)  (z0 : Int) (M : ts_M) : Prop :=
  Q z0 M
def wX12_notAmend (p1 : Int) (Q : Int → ts_M → Prop) (M : ts_M) : Prop :=
  (wX12_isBetween p1 (-20) 20 (fun r2 M1 => ((¬ (ts_w r2 = 0) → (wX12_canMake 1 (fun r4 M3 => ((ts_w r4 = 0 → wX12_notAmend_B26 Q 2 M3) ∧ (¬ (ts_w r4 = 0) → wX12_notAmend_B26 Q 0 M3))) M1)) ∧ (ts_w r2 = 0 → Q 1 M1))) M)
set_option maxRecDepth 100000 in
set_option maxHeartbeats 4000000 in
theorem mX12_notAmend {l : Launch} {g : ts_W} (hl : l.stackTraces = false) {p1 : Int} {Q : Int → ts_M → Prop} {M : ts_M} : wX12_notAmend p1 Q M → ts_Con l g yX12_notAmend cX12_notAmend 2 (some .int) 2 0 0 [.ref (ts_ad g 164), ts_v p1] M (ts_Ri Q) := by
  intro h0
  refine ts_Con.of hl (by decide) (Nat.le_of_ble_eq_true rfl) ?_
  intro p e s m args below meth c C
  have H26 : ∀ (z0 : Int) (M : ts_M), wX12_notAmend_B26   Q z0 M → ts_V p l e (ts_rm 2 0 0) s m args below meth c g 2 0 0 (MQ below (ts_Q g (ts_Ri Q)) args s 0 0 (ts_A g)) 26 [] [ts_v z0] M := by
    intro  z0 M
    unfold wX12_notAmend_B26
    exact ts_ireti C (Nat.zero_le _) (Nat.zero_le _) dX12_notAmend_26
  revert h0
  unfold wX12_notAmend
  have hl0 : lv_args 0 [.ref (ts_ad g 164), ts_v p1] = [(0, .ref (ts_ad g 164)), (1, ts_v p1)] := rfl
  rw [hl0]
  refine ts_iload_n C dX12_notAmend_0 rfl 1 rfl ?_
  refine ts_bipush C dX12_notAmend_1 (-20) tb_m20 ?_
  refine ts_bipush C dX12_notAmend_3 20 tb_20 ?_
  refine ts_callSi C [ts_v p1, ts_v (-20), ts_v 20] (mX12_isBetween hl) kX12_isBetween q_2034 rfl rfl (Nat.le_of_ble_eq_true rfl) ⟨Nat.le_of_ble_eq_true rfl, Nat.le_of_ble_eq_true rfl⟩ ⟨Nat.le_of_ble_eq_true rfl, Nat.le_of_ble_eq_true rfl⟩ dX12_notAmend_5 (fun r2 M1 => ?_)
  refine ts_cm0_ne C rfl 13 dX12_notAmend_8 rfl ?_ ?_
  · refine ts_aload_n C dX12_notAmend_13 rfl 0 rfl ?_
    refine ts_iconst C dX12_notAmend_14 1 rfl ?_
    refine ts_callVi C [ts_v 1] (mX12_canMake hl) kX12_canMake q_2093 (by decide) shX12 rfl rfl rfl (Nat.le_of_ble_eq_true rfl) ⟨Nat.le_of_ble_eq_true rfl, Nat.le_of_ble_eq_true rfl⟩ ⟨Nat.le_of_ble_eq_true rfl, Nat.le_of_ble_eq_true rfl⟩ dX12_notAmend_15 (fun r4 M3 => ?_)
    refine ts_cm0_eq C rfl 25 dX12_notAmend_18 rfl ?_ ?_
    · refine ts_iconst C dX12_notAmend_25 2 rfl ?_
      exact ts_sub [] rfl (H26 _ _)
    · refine ts_iconst C dX12_notAmend_21 0 rfl ?_
      refine ts_goto C 26 dX12_notAmend_22 rfl ?_
      exact ts_sub [] rfl (H26 _ _)
  · refine ts_iconst C dX12_notAmend_11 1 rfl ?_
    exact ts_ireti C (Nat.zero_le _) (Nat.zero_le _) dX12_notAmend_12
def wX12_makesAmendment (p1 : Int) (Q : Int → ts_M → Prop) (M : ts_M) : Prop :=
  (∀ M1, M1 = ts_si M 165 61 p1 → (wX12_makes 1 (fun r3 M2 => Q r3 M2) M1))
set_option maxRecDepth 100000 in
set_option maxHeartbeats 4000000 in
theorem mX12_makesAmendment {l : Launch} {g : ts_W} (hl : l.stackTraces = false) {p1 : Int} {Q : Int → ts_M → Prop} {M : ts_M} : wX12_makesAmendment p1 Q M → ts_Con l g yX12_makesAmendment cX12_makesAmendment 2 (some .int) 1 0 0 [.ref (ts_ad g 164), ts_v p1] M (ts_Ri Q) := by
  intro h0
  refine ts_Con.of hl (by decide) (Nat.le_of_ble_eq_true rfl) ?_
  intro p e s m args below meth c C
  revert h0
  unfold wX12_makesAmendment
  have hl0 : lv_args 0 [.ref (ts_ad g 164), ts_v p1] = [(0, .ref (ts_ad g 164)), (1, ts_v p1)] := rfl
  rw [hl0]
  refine ts_aload_n C dX12_makesAmendment_0 rfl 0 rfl ?_
  refine tgX12_1 C q_1959 dX12_makesAmendment_1 ?_
  refine ts_bipush C dX12_makesAmendment_4 61 tb_61 ?_
  refine ts_iload_n C dX12_makesAmendment_6 rfl 1 rfl ?_
  refine ts_iastc C (by decide) shG165 tw_61 (by decide) dX12_makesAmendment_7 (fun M1 => ?_)
  refine ts_aload_n C dX12_makesAmendment_8 rfl 0 rfl ?_
  refine ts_iconst C dX12_makesAmendment_9 1 rfl ?_
  refine ts_callVi C [ts_v 1] (mX12_makes hl) kX12_makes q_2105 (by decide) shX12 rfl rfl rfl (Nat.le_of_ble_eq_true rfl) ⟨Nat.le_of_ble_eq_true rfl, Nat.le_of_ble_eq_true rfl⟩ ⟨Nat.le_of_ble_eq_true rfl, Nat.le_of_ble_eq_true rfl⟩ dX12_makesAmendment_10 (fun r3 M2 => ?_)
  exact ts_ireti C (Nat.zero_le _) (Nat.zero_le _) dX12_makesAmendment_13
def wX12_moveAmendment (p1 : Int) (Q : Int → ts_M → Prop) (M : ts_M) : Prop :=
  (∀ M1, M1 = ts_si M 164 0 0 → (wX12_notAmend p1 (fun r3 M2 => (∀ x4 : Int, x4 = r3 → ((ts_w x4 = 0 → (wX12_remembers  (fun M5 => (wX12_makesAmendment p1 (fun r7 M6 => Q r7 M6) M5)) M2)) ∧ (¬ (ts_w x4 = 0) → (wX12_fails x4 (fun r9 M8 => Q r9 M8) M2))))) M1))
set_option maxRecDepth 100000 in
set_option maxHeartbeats 4000000 in
theorem mX12_moveAmendment {l : Launch} {g : ts_W} (hl : l.stackTraces = false) {p1 : Int} {Q : Int → ts_M → Prop} {M : ts_M} : wX12_moveAmendment p1 Q M → ts_Con l g yX12_moveAmendment cX12_moveAmendment 3 (some .int) 3 0 0 [.ref (ts_ad g 164), ts_v p1] M (ts_Ri Q) := by
  intro h0
  refine ts_Con.of hl (by decide) (Nat.le_of_ble_eq_true rfl) ?_
  intro p e s m args below meth c C
  revert h0
  unfold wX12_moveAmendment
  have hl0 : lv_args 0 [.ref (ts_ad g 164), ts_v p1] = [(0, .ref (ts_ad g 164)), (1, ts_v p1)] := rfl
  rw [hl0]
  refine ts_aload_n C dX12_moveAmendment_0 rfl 0 rfl ?_
  refine ts_iconst C dX12_moveAmendment_1 0 rfl ?_
  refine tpX12_0 C q_1958 dX12_moveAmendment_2 (fun M1 => ?_)
  refine ts_aload_n C dX12_moveAmendment_5 rfl 0 rfl ?_
  refine ts_iload_n C dX12_moveAmendment_6 rfl 1 rfl ?_
  refine ts_callVi C [ts_v p1] (mX12_notAmend hl) kX12_notAmend q_2113 (by decide) shX12 rfl rfl rfl (Nat.le_of_ble_eq_true rfl) ⟨Nat.le_of_ble_eq_true rfl, Nat.le_of_ble_eq_true rfl⟩ ⟨Nat.le_of_ble_eq_true rfl, Nat.le_of_ble_eq_true rfl⟩ dX12_moveAmendment_7 (fun r3 M2 => ?_)
  refine ts_istore_n C dX12_moveAmendment_10 rfl (by decide) (lv' := fun x4 => [(2, ts_v x4), (0, .ref (ts_ad g 164)), (1, ts_v p1)]) (fun _ => rfl) (fun x4 => ?_)
  refine ts_iload_n C dX12_moveAmendment_11 rfl 0 rfl ?_
  refine ts_cm0_eq C rfl 21 dX12_moveAmendment_12 rfl ?_ ?_
  · refine ts_aload_n C dX12_moveAmendment_21 rfl 1 rfl ?_
    refine ts_callVv C [] (mX12_remembers hl) kX12_remembers q_2041 (by decide) shX12 rfl rfl rfl (Nat.le_of_ble_eq_true rfl) ⟨Nat.le_of_ble_eq_true rfl, Nat.le_of_ble_eq_true rfl⟩ ⟨Nat.le_of_ble_eq_true rfl, Nat.le_of_ble_eq_true rfl⟩ dX12_moveAmendment_22 (fun M5 => ?_)
    refine ts_aload_n C dX12_moveAmendment_25 rfl 1 rfl ?_
    refine ts_iload_n C dX12_moveAmendment_26 rfl 2 rfl ?_
    refine ts_callVi C [ts_v p1] (mX12_makesAmendment hl) kX12_makesAmendment q_2117 (by decide) shX12 rfl rfl rfl (Nat.le_of_ble_eq_true rfl) ⟨Nat.le_of_ble_eq_true rfl, Nat.le_of_ble_eq_true rfl⟩ ⟨Nat.le_of_ble_eq_true rfl, Nat.le_of_ble_eq_true rfl⟩ dX12_moveAmendment_27 (fun r7 M6 => ?_)
    exact ts_ireti C (Nat.zero_le _) (Nat.zero_le _) dX12_moveAmendment_30
  · refine ts_aload_n C dX12_moveAmendment_15 rfl 1 rfl ?_
    refine ts_iload_n C dX12_moveAmendment_16 rfl 0 rfl ?_
    refine ts_callVi C [ts_v x4] (mX12_fails hl) kX12_fails q_2037 (by decide) shX12 rfl rfl rfl (Nat.le_of_ble_eq_true rfl) ⟨Nat.le_of_ble_eq_true rfl, Nat.le_of_ble_eq_true rfl⟩ ⟨Nat.le_of_ble_eq_true rfl, Nat.le_of_ble_eq_true rfl⟩ dX12_moveAmendment_17 (fun r9 M8 => ?_)
    exact ts_ireti C (Nat.zero_le _) (Nat.zero_le _) dX12_moveAmendment_20
def wX12_moves (p1 : Int) (Q : Int → ts_M → Prop) (M : ts_M) : Prop :=
  (∀ M1, M1 = ts_si M 164 0 0 → (wX12_canMake p1 (fun r3 M2 => ((¬ (ts_w r3 = 0) → (wX12_remembers  (fun M4 => (wX12_makes p1 (fun r6 M5 => Q r6 M5) M4)) M2)) ∧ (ts_w r3 = 0 → (wX12_fails 1 (fun r8 M7 => Q r8 M7) M2)))) M1))
set_option maxRecDepth 100000 in
set_option maxHeartbeats 4000000 in
theorem mX12_moves {l : Launch} {g : ts_W} (hl : l.stackTraces = false) {p1 : Int} {Q : Int → ts_M → Prop} {M : ts_M} : wX12_moves p1 Q M → ts_Con l g yX12_moves cX12_moves 2 (some .int) 2 0 0 [.ref (ts_ad g 164), ts_v p1] M (ts_Ri Q) := by
  intro h0
  refine ts_Con.of hl (by decide) (Nat.le_of_ble_eq_true rfl) ?_
  intro p e s m args below meth c C
  revert h0
  unfold wX12_moves
  have hl0 : lv_args 0 [.ref (ts_ad g 164), ts_v p1] = [(0, .ref (ts_ad g 164)), (1, ts_v p1)] := rfl
  rw [hl0]
  refine ts_aload_n C dX12_moves_0 rfl 0 rfl ?_
  refine ts_iconst C dX12_moves_1 0 rfl ?_
  refine tpX12_0 C q_1958 dX12_moves_2 (fun M1 => ?_)
  refine ts_aload_n C dX12_moves_5 rfl 0 rfl ?_
  refine ts_iload_n C dX12_moves_6 rfl 1 rfl ?_
  refine ts_callVi C [ts_v p1] (mX12_canMake hl) kX12_canMake q_2093 (by decide) shX12 rfl rfl rfl (Nat.le_of_ble_eq_true rfl) ⟨Nat.le_of_ble_eq_true rfl, Nat.le_of_ble_eq_true rfl⟩ ⟨Nat.le_of_ble_eq_true rfl, Nat.le_of_ble_eq_true rfl⟩ dX12_moves_7 (fun r3 M2 => ?_)
  refine ts_cm0_ne C rfl 19 dX12_moves_10 rfl ?_ ?_
  · refine ts_aload_n C dX12_moves_19 rfl 0 rfl ?_
    refine ts_callVv C [] (mX12_remembers hl) kX12_remembers q_2041 (by decide) shX12 rfl rfl rfl (Nat.le_of_ble_eq_true rfl) ⟨Nat.le_of_ble_eq_true rfl, Nat.le_of_ble_eq_true rfl⟩ ⟨Nat.le_of_ble_eq_true rfl, Nat.le_of_ble_eq_true rfl⟩ dX12_moves_20 (fun M4 => ?_)
    refine ts_aload_n C dX12_moves_23 rfl 0 rfl ?_
    refine ts_iload_n C dX12_moves_24 rfl 1 rfl ?_
    refine ts_callVi C [ts_v p1] (mX12_makes hl) kX12_makes q_2105 (by decide) shX12 rfl rfl rfl (Nat.le_of_ble_eq_true rfl) ⟨Nat.le_of_ble_eq_true rfl, Nat.le_of_ble_eq_true rfl⟩ ⟨Nat.le_of_ble_eq_true rfl, Nat.le_of_ble_eq_true rfl⟩ dX12_moves_25 (fun r6 M5 => ?_)
    exact ts_ireti C (Nat.zero_le _) (Nat.zero_le _) dX12_moves_28
  · refine ts_aload_n C dX12_moves_13 rfl 0 rfl ?_
    refine ts_iconst C dX12_moves_14 1 rfl ?_
    refine ts_callVi C [ts_v 1] (mX12_fails hl) kX12_fails q_2037 (by decide) shX12 rfl rfl rfl (Nat.le_of_ble_eq_true rfl) ⟨Nat.le_of_ble_eq_true rfl, Nat.le_of_ble_eq_true rfl⟩ ⟨Nat.le_of_ble_eq_true rfl, Nat.le_of_ble_eq_true rfl⟩ dX12_moves_15 (fun r8 M7 => ?_)
    exact ts_ireti C (Nat.zero_le _) (Nat.zero_le _) dX12_moves_18
def wX12_movePostponement (Q : Int → ts_M → Prop) (M : ts_M) : Prop :=
  (wX12_moves 2 (fun r2 M1 => Q r2 M1) M)
set_option maxRecDepth 100000 in
set_option maxHeartbeats 4000000 in
theorem mX12_movePostponement {l : Launch} {g : ts_W} (hl : l.stackTraces = false) {Q : Int → ts_M → Prop} {M : ts_M} : wX12_movePostponement Q M → ts_Con l g yX12_movePostponement cX12_movePostponement 1 (some .int) 3 0 0 [.ref (ts_ad g 164)] M (ts_Ri Q) := by
  intro h0
  refine ts_Con.of hl (by decide) (Nat.le_of_ble_eq_true rfl) ?_
  intro p e s m args below meth c C
  revert h0
  unfold wX12_movePostponement
  have hl0 : lv_args 0 [.ref (ts_ad g 164)] = [(0, .ref (ts_ad g 164))] := rfl
  rw [hl0]
  refine ts_aload_n C dX12_movePostponement_0 rfl 0 rfl ?_
  refine ts_iconst C dX12_movePostponement_1 2 rfl ?_
  refine ts_callVi C [ts_v 2] (mX12_moves hl) kX12_moves q_2125 (by decide) shX12 rfl rfl rfl (Nat.le_of_ble_eq_true rfl) ⟨Nat.le_of_ble_eq_true rfl, Nat.le_of_ble_eq_true rfl⟩ ⟨Nat.le_of_ble_eq_true rfl, Nat.le_of_ble_eq_true rfl⟩ dX12_movePostponement_2 (fun r2 M1 => ?_)
  exact ts_ireti C (Nat.zero_le _) (Nat.zero_le _) dX12_movePostponement_5
def wX12_moveClosure (Q : Int → ts_M → Prop) (M : ts_M) : Prop :=
  (wX12_moves 3 (fun r2 M1 => Q r2 M1) M)
set_option maxRecDepth 100000 in
set_option maxHeartbeats 4000000 in
theorem mX12_moveClosure {l : Launch} {g : ts_W} (hl : l.stackTraces = false) {Q : Int → ts_M → Prop} {M : ts_M} : wX12_moveClosure Q M → ts_Con l g yX12_moveClosure cX12_moveClosure 1 (some .int) 3 0 0 [.ref (ts_ad g 164)] M (ts_Ri Q) := by
  intro h0
  refine ts_Con.of hl (by decide) (Nat.le_of_ble_eq_true rfl) ?_
  intro p e s m args below meth c C
  revert h0
  unfold wX12_moveClosure
  have hl0 : lv_args 0 [.ref (ts_ad g 164)] = [(0, .ref (ts_ad g 164))] := rfl
  rw [hl0]
  refine ts_aload_n C dX12_moveClosure_0 rfl 0 rfl ?_
  refine ts_iconst C dX12_moveClosure_1 3 rfl ?_
  refine ts_callVi C [ts_v 3] (mX12_moves hl) kX12_moves q_2125 (by decide) shX12 rfl rfl rfl (Nat.le_of_ble_eq_true rfl) ⟨Nat.le_of_ble_eq_true rfl, Nat.le_of_ble_eq_true rfl⟩ ⟨Nat.le_of_ble_eq_true rfl, Nat.le_of_ble_eq_true rfl⟩ dX12_moveClosure_2 (fun r2 M1 => ?_)
  exact ts_ireti C (Nat.zero_le _) (Nat.zero_le _) dX12_moveClosure_5
def wX12_moveAdjournment (Q : Int → ts_M → Prop) (M : ts_M) : Prop :=
  (wX12_moves 4 (fun r2 M1 => Q r2 M1) M)
set_option maxRecDepth 100000 in
set_option maxHeartbeats 4000000 in
theorem mX12_moveAdjournment {l : Launch} {g : ts_W} (hl : l.stackTraces = false) {Q : Int → ts_M → Prop} {M : ts_M} : wX12_moveAdjournment Q M → ts_Con l g yX12_moveAdjournment cX12_moveAdjournment 1 (some .int) 3 0 0 [.ref (ts_ad g 164)] M (ts_Ri Q) := by
  intro h0
  refine ts_Con.of hl (by decide) (Nat.le_of_ble_eq_true rfl) ?_
  intro p e s m args below meth c C
  revert h0
  unfold wX12_moveAdjournment
  have hl0 : lv_args 0 [.ref (ts_ad g 164)] = [(0, .ref (ts_ad g 164))] := rfl
  rw [hl0]
  refine ts_aload_n C dX12_moveAdjournment_0 rfl 0 rfl ?_
  refine ts_iconst C dX12_moveAdjournment_1 4 rfl ?_
  refine ts_callVi C [ts_v 4] (mX12_moves hl) kX12_moves q_2125 (by decide) shX12 rfl rfl rfl (Nat.le_of_ble_eq_true rfl) ⟨Nat.le_of_ble_eq_true rfl, Nat.le_of_ble_eq_true rfl⟩ ⟨Nat.le_of_ble_eq_true rfl, Nat.le_of_ble_eq_true rfl⟩ dX12_moveAdjournment_2 (fun r2 M1 => ?_)
  exact ts_ireti C (Nat.zero_le _) (Nat.zero_le _) dX12_moveAdjournment_5
def wX12_empties_L55   (Q : ts_M → Prop) (k55 : Int → ts_M → Prop) (y1 : Int) (M : ts_M) : Prop :=
  ((ts_w (M.1 165 0) ≤ ts_w y1 → Q M) ∧ (¬ (ts_w (M.1 165 0) ≤ ts_w y1) → (wX12_puts y1 3 0 (fun M7 => (∀ x8 : Int, x8 = y1 + 1 → k55 x8 M7)) M)))
def wX12_empties_L2   (Q : ts_M → Prop) (k2 : Int → ts_M → Prop) (y1 : Int) (M : ts_M) : Prop :=
  ((5 ≤ ts_w y1 → (∀ M2, M2 = ts_si M 165 3 0 → (∀ M3, M3 = ts_si M2 165 60 0 → (∀ M4, M4 = ts_si M3 165 61 0 → (∀ M5, M5 = ts_si M4 165 4 0 → (∀ x6 : Int, x6 = 0 → ∃ n, ts_lp1 (wX12_empties_L55 Q) n x6 M5)))))) ∧ (¬ (5 ≤ ts_w y1) → ((0 ≤ ts_w (55 + y1) ∧ ts_w (55 + y1) < ((146 : Nat) : Int)) ∧ ∀ M9, M9 = ts_si M 165 (ts_w (55 + y1)) 0 → (∀ x10 : Int, x10 = y1 + 1 → k2 x10 M9))))
def wX12_empties (Q : ts_M → Prop) (M : ts_M) : Prop :=
  (∀ x1 : Int, x1 = 0 → ∃ n, ts_lp1 (wX12_empties_L2 Q) n x1 M)
set_option maxRecDepth 100000 in
set_option maxHeartbeats 4000000 in
theorem mX12_empties {l : Launch} {g : ts_W} (hl : l.stackTraces = false) {Q : ts_M → Prop} {M : ts_M} : wX12_empties Q M → ts_Con l g yX12_empties cX12_empties 2 none 1 0 0 [.ref (ts_ad g 164)] M (ts_Rv Q) := by
  intro h0
  refine ts_Con.of hl (by decide) (Nat.le_of_ble_eq_true rfl) ?_
  intro p e s m args below meth c C
  have H55 : ∀ (n : Nat) (y1 : Int) (M : ts_M), ts_lp1 (wX12_empties_L55   Q) n y1 M → ts_V p l e (ts_rm 1 0 0) s m args below meth c g 2 0 0 (MQ below (ts_Q g (ts_Rv Q)) args s 0 0 (ts_A g)) 55 [(0, .ref (ts_ad g 164)), (1, ts_v y1)] [] M := by
    refine ts_lpr1 (V := fun (y1 : Int) (M : ts_M) => ts_V p l e (ts_rm 1 0 0) s m args below meth c g 2 0 0 (MQ below (ts_Q g (ts_Rv Q)) args s 0 0 (ts_A g)) 55 [(0, .ref (ts_ad g 164)), (1, ts_v y1)] [] M) ?_
    intro k55 hk55 y1 M
    unfold wX12_empties_L55
    refine ts_iload_n C dX12_empties_55 rfl 1 rfl ?_
    refine ts_aload_n C dX12_empties_56 rfl 0 rfl ?_
    refine tgX12_1 C q_1959 dX12_empties_57 ?_
    refine ts_iconst C dX12_empties_60 0 rfl ?_
    refine ts_ialdc C (by decide) shG165 tw_0 (by decide) dX12_empties_61 ?_
    refine ts_cmp_ge C rfl rfl 78 dX12_empties_62 rfl ?_ ?_
    · exact ts_vreti C (Nat.zero_le _) (Nat.zero_le _) dX12_empties_78
    · refine ts_aload_n C dX12_empties_65 rfl 0 rfl ?_
      refine ts_iload_n C dX12_empties_66 rfl 1 rfl ?_
      refine ts_iconst C dX12_empties_67 3 rfl ?_
      refine ts_iconst C dX12_empties_68 0 rfl ?_
      refine ts_callVv C [ts_v y1, ts_v 3, ts_v 0] (mX12_puts hl) kX12_puts q_2057 (by decide) shX12 rfl rfl rfl (Nat.le_of_ble_eq_true rfl) ⟨Nat.le_of_ble_eq_true rfl, Nat.le_of_ble_eq_true rfl⟩ ⟨Nat.le_of_ble_eq_true rfl, Nat.le_of_ble_eq_true rfl⟩ dX12_empties_69 (fun M7 => ?_)
      refine ts_iinc C dX12_empties_72 1 rfl (by decide) (lv' := fun x8 => [(1, ts_v x8), (0, .ref (ts_ad g 164))]) (fun _ => rfl) (fun x8 => ?_)
      refine ts_goto C 55 dX12_empties_75 rfl ?_
      exact ts_sub [1, 0] rfl (hk55 _ _)
  have H2 : ∀ (n : Nat) (y1 : Int) (M : ts_M), ts_lp1 (wX12_empties_L2   Q) n y1 M → ts_V p l e (ts_rm 1 0 0) s m args below meth c g 2 0 0 (MQ below (ts_Q g (ts_Rv Q)) args s 0 0 (ts_A g)) 2 [(0, .ref (ts_ad g 164)), (1, ts_v y1)] [] M := by
    refine ts_lpr1 (V := fun (y1 : Int) (M : ts_M) => ts_V p l e (ts_rm 1 0 0) s m args below meth c g 2 0 0 (MQ below (ts_Q g (ts_Rv Q)) args s 0 0 (ts_A g)) 2 [(0, .ref (ts_ad g 164)), (1, ts_v y1)] [] M) ?_
    intro k2 hk2 y1 M
    unfold wX12_empties_L2
    refine ts_iload_n C dX12_empties_2 rfl 1 rfl ?_
    refine ts_iconst C dX12_empties_3 5 rfl ?_
    refine ts_cmp_ge C rfl tw_5 23 dX12_empties_4 rfl ?_ ?_
    · refine ts_aload_n C dX12_empties_23 rfl 0 rfl ?_
      refine tgX12_1 C q_1959 dX12_empties_24 ?_
      refine ts_iconst C dX12_empties_27 3 rfl ?_
      refine ts_iconst C dX12_empties_28 0 rfl ?_
      refine ts_iastc C (by decide) shG165 tw_3 (by decide) dX12_empties_29 (fun M2 => ?_)
      refine ts_aload_n C dX12_empties_30 rfl 0 rfl ?_
      refine tgX12_1 C q_1959 dX12_empties_31 ?_
      refine ts_bipush C dX12_empties_34 60 tb_60 ?_
      refine ts_iconst C dX12_empties_36 0 rfl ?_
      refine ts_iastc C (by decide) shG165 tw_60 (by decide) dX12_empties_37 (fun M3 => ?_)
      refine ts_aload_n C dX12_empties_38 rfl 0 rfl ?_
      refine tgX12_1 C q_1959 dX12_empties_39 ?_
      refine ts_bipush C dX12_empties_42 61 tb_61 ?_
      refine ts_iconst C dX12_empties_44 0 rfl ?_
      refine ts_iastc C (by decide) shG165 tw_61 (by decide) dX12_empties_45 (fun M4 => ?_)
      refine ts_aload_n C dX12_empties_46 rfl 0 rfl ?_
      refine tgX12_1 C q_1959 dX12_empties_47 ?_
      refine ts_iconst C dX12_empties_50 4 rfl ?_
      refine ts_iconst C dX12_empties_51 0 rfl ?_
      refine ts_iastc C (by decide) shG165 tw_4 (by decide) dX12_empties_52 (fun M5 => ?_)
      refine ts_iconst C dX12_empties_53 0 rfl ?_
      refine ts_istore_n C dX12_empties_54 rfl (by decide) (lv' := fun x6 => [(1, ts_v x6), (0, .ref (ts_ad g 164))]) (fun _ => rfl) (fun x6 => ?_)
      rintro ⟨n, hn⟩
      exact ts_sub [1, 0] rfl (H55 n _ _) hn
    · refine ts_aload_n C dX12_empties_7 rfl 0 rfl ?_
      refine tgX12_1 C q_1959 dX12_empties_8 ?_
      refine ts_bipush C dX12_empties_11 55 tb_55 ?_
      refine ts_iload_n C dX12_empties_13 rfl 1 rfl ?_
      refine ts_iadd C dX12_empties_14 ?_
      refine ts_iconst C dX12_empties_15 0 rfl ?_
      refine ts_iast C (by decide) shG165 dX12_empties_16 (fun M9 => ?_)
      refine ts_iinc C dX12_empties_17 1 rfl (by decide) (lv' := fun x10 => [(1, ts_v x10), (0, .ref (ts_ad g 164))]) (fun _ => rfl) (fun x10 => ?_)
      refine ts_goto C 2 dX12_empties_20 rfl ?_
      exact ts_sub [1, 0] rfl (hk2 _ _)
  revert h0
  unfold wX12_empties
  have hl0 : lv_args 0 [.ref (ts_ad g 164)] = [(0, .ref (ts_ad g 164))] := rfl
  rw [hl0]
  refine ts_iconst C dX12_empties_0 0 rfl ?_
  refine ts_istore_n C dX12_empties_1 rfl (by decide) (lv' := fun x1 => [(1, ts_v x1), (0, .ref (ts_ad g 164))]) (fun _ => rfl) (fun x1 => ?_)
  rintro ⟨n, hn⟩
  exact ts_sub [1, 0] rfl (H2 n _ _) hn
def wX12_adjourns (Q : ts_M → Prop) (M : ts_M) : Prop :=
  (∀ M1, M1 = ts_si M 165 5 ((M.1 165 5) + 1) → (wX12_empties  (fun M2 => Q M2) M1))
set_option maxRecDepth 100000 in
set_option maxHeartbeats 4000000 in
theorem mX12_adjourns {l : Launch} {g : ts_W} (hl : l.stackTraces = false) {Q : ts_M → Prop} {M : ts_M} : wX12_adjourns Q M → ts_Con l g yX12_adjourns cX12_adjourns 1 none 2 0 0 [.ref (ts_ad g 164)] M (ts_Rv Q) := by
  intro h0
  refine ts_Con.of hl (by decide) (Nat.le_of_ble_eq_true rfl) ?_
  intro p e s m args below meth c C
  revert h0
  unfold wX12_adjourns
  have hl0 : lv_args 0 [.ref (ts_ad g 164)] = [(0, .ref (ts_ad g 164))] := rfl
  rw [hl0]
  refine ts_aload_n C dX12_adjourns_0 rfl 0 rfl ?_
  refine tgX12_1 C q_1959 dX12_adjourns_1 ?_
  refine ts_iconst C dX12_adjourns_4 5 rfl ?_
  refine ts_dup2 C dX12_adjourns_5 rfl rfl ?_
  refine ts_ialdc C (by decide) shG165 tw_5 (by decide) dX12_adjourns_6 ?_
  refine ts_iconst C dX12_adjourns_7 1 rfl ?_
  refine ts_iadd C dX12_adjourns_8 ?_
  refine ts_iastc C (by decide) shG165 tw_5 (by decide) dX12_adjourns_9 (fun M1 => ?_)
  refine ts_aload_n C dX12_adjourns_10 rfl 0 rfl ?_
  refine ts_callVv C [] (mX12_empties hl) kX12_empties q_2212 (by decide) shX12 rfl rfl rfl (Nat.le_of_ble_eq_true rfl) ⟨Nat.le_of_ble_eq_true rfl, Nat.le_of_ble_eq_true rfl⟩ ⟨Nat.le_of_ble_eq_true rfl, Nat.le_of_ble_eq_true rfl⟩ dX12_adjourns_11 (fun M2 => ?_)
  exact ts_vreti C (Nat.zero_le _) (Nat.zero_le _) dX12_adjourns_14
def wX12_notSpeak_B39   (Q : Int → ts_M → Prop)   (M : ts_M) : Prop :=
  Q 2 M
def wX12_notSpeak_B55   (Q : Int → ts_M → Prop)  (z0 : Int) (M : ts_M) : Prop :=
  Q z0 M
def wX12_notSpeak (p1 : Int) (Q : Int → ts_M → Prop) (M : ts_M) : Prop :=
  (wX12_isSpoon p1 (fun r2 M1 => ((¬ (ts_w r2 = 0) → ((ts_w (M1.1 165 3) = 0 → wX12_notSpeak_B39 Q M1) ∧ (¬ (ts_w (M1.1 165 3) = 0) → ((ts_w (M1.1 165 4) = 1 → wX12_notSpeak_B39 Q M1) ∧ (¬ (ts_w (M1.1 165 4) = 1) → (wX12_spoon p1 3 (fun r4 M3 => ((¬ (ts_w r4 = 2) → (wX12_spoon p1 2 (fun r6 M5 => ((¬ (ts_w r6 = 0) → wX12_notSpeak_B55 Q 0 M5) ∧ (ts_w r6 = 0 → wX12_notSpeak_B55 Q 3 M5))) M3)) ∧ (ts_w r4 = 2 → wX12_notSpeak_B39 Q M3))) M1)))))) ∧ (ts_w r2 = 0 → Q 1 M1))) M)
set_option maxRecDepth 100000 in
set_option maxHeartbeats 4000000 in
theorem mX12_notSpeak {l : Launch} {g : ts_W} (hl : l.stackTraces = false) {p1 : Int} {Q : Int → ts_M → Prop} {M : ts_M} : wX12_notSpeak p1 Q M → ts_Con l g yX12_notSpeak cX12_notSpeak 2 (some .int) 2 0 0 [.ref (ts_ad g 164), ts_v p1] M (ts_Ri Q) := by
  intro h0
  refine ts_Con.of hl (by decide) (Nat.le_of_ble_eq_true rfl) ?_
  intro p e s m args below meth c C
  have H39 : ∀  (M : ts_M), wX12_notSpeak_B39   Q  M → ts_V p l e (ts_rm 2 0 0) s m args below meth c g 2 0 0 (MQ below (ts_Q g (ts_Ri Q)) args s 0 0 (ts_A g)) 39 [] [] M := by
    intro   M
    unfold wX12_notSpeak_B39
    refine ts_iconst C dX12_notSpeak_39 2 rfl ?_
    exact ts_ireti C (Nat.zero_le _) (Nat.zero_le _) dX12_notSpeak_40
  have H55 : ∀ (z0 : Int) (M : ts_M), wX12_notSpeak_B55   Q z0 M → ts_V p l e (ts_rm 2 0 0) s m args below meth c g 2 0 0 (MQ below (ts_Q g (ts_Ri Q)) args s 0 0 (ts_A g)) 55 [] [ts_v z0] M := by
    intro  z0 M
    unfold wX12_notSpeak_B55
    exact ts_ireti C (Nat.zero_le _) (Nat.zero_le _) dX12_notSpeak_55
  revert h0
  unfold wX12_notSpeak
  have hl0 : lv_args 0 [.ref (ts_ad g 164), ts_v p1] = [(0, .ref (ts_ad g 164)), (1, ts_v p1)] := rfl
  rw [hl0]
  refine ts_aload_n C dX12_notSpeak_0 rfl 0 rfl ?_
  refine ts_iload_n C dX12_notSpeak_1 rfl 1 rfl ?_
  refine ts_callVi C [ts_v p1] (mX12_isSpoon hl) kX12_isSpoon q_2145 (by decide) shX12 rfl rfl rfl (Nat.le_of_ble_eq_true rfl) ⟨Nat.le_of_ble_eq_true rfl, Nat.le_of_ble_eq_true rfl⟩ ⟨Nat.le_of_ble_eq_true rfl, Nat.le_of_ble_eq_true rfl⟩ dX12_notSpeak_2 (fun r2 M1 => ?_)
  refine ts_cm0_ne C rfl 10 dX12_notSpeak_5 rfl ?_ ?_
  · refine ts_aload_n C dX12_notSpeak_10 rfl 0 rfl ?_
    refine tgX12_1 C q_1959 dX12_notSpeak_11 ?_
    refine ts_iconst C dX12_notSpeak_14 3 rfl ?_
    refine ts_ialdc C (by decide) shG165 tw_3 (by decide) dX12_notSpeak_15 ?_
    refine ts_cm0_eq C rfl 39 dX12_notSpeak_16 rfl ?_ ?_
    · exact ts_sub [] rfl (H39 _)
    · refine ts_aload_n C dX12_notSpeak_19 rfl 0 rfl ?_
      refine tgX12_1 C q_1959 dX12_notSpeak_20 ?_
      refine ts_iconst C dX12_notSpeak_23 4 rfl ?_
      refine ts_ialdc C (by decide) shG165 tw_4 (by decide) dX12_notSpeak_24 ?_
      refine ts_iconst C dX12_notSpeak_25 1 rfl ?_
      refine ts_cmp_eq C rfl tw_1 39 dX12_notSpeak_26 rfl ?_ ?_
      · exact ts_sub [] rfl (H39 _)
      · refine ts_aload_n C dX12_notSpeak_29 rfl 0 rfl ?_
        refine ts_iload_n C dX12_notSpeak_30 rfl 1 rfl ?_
        refine ts_iconst C dX12_notSpeak_31 3 rfl ?_
        refine ts_callVi C [ts_v p1, ts_v 3] (mX12_spoon hl) kX12_spoon q_2149 (by decide) shX12 rfl rfl rfl (Nat.le_of_ble_eq_true rfl) ⟨Nat.le_of_ble_eq_true rfl, Nat.le_of_ble_eq_true rfl⟩ ⟨Nat.le_of_ble_eq_true rfl, Nat.le_of_ble_eq_true rfl⟩ dX12_notSpeak_32 (fun r4 M3 => ?_)
        refine ts_iconst C dX12_notSpeak_35 2 rfl ?_
        refine ts_cmp_ne C rfl tw_2 41 dX12_notSpeak_36 rfl ?_ ?_
        · refine ts_aload_n C dX12_notSpeak_41 rfl 0 rfl ?_
          refine ts_iload_n C dX12_notSpeak_42 rfl 1 rfl ?_
          refine ts_iconst C dX12_notSpeak_43 2 rfl ?_
          refine ts_callVi C [ts_v p1, ts_v 2] (mX12_spoon hl) kX12_spoon q_2149 (by decide) shX12 rfl rfl rfl (Nat.le_of_ble_eq_true rfl) ⟨Nat.le_of_ble_eq_true rfl, Nat.le_of_ble_eq_true rfl⟩ ⟨Nat.le_of_ble_eq_true rfl, Nat.le_of_ble_eq_true rfl⟩ dX12_notSpeak_44 (fun r6 M5 => ?_)
          refine ts_cm0_ne C rfl 54 dX12_notSpeak_47 rfl ?_ ?_
          · refine ts_iconst C dX12_notSpeak_54 0 rfl ?_
            exact ts_sub [] rfl (H55 _ _)
          · refine ts_iconst C dX12_notSpeak_50 3 rfl ?_
            refine ts_goto C 55 dX12_notSpeak_51 rfl ?_
            exact ts_sub [] rfl (H55 _ _)
        · exact ts_sub [] rfl (H39 _)
  · refine ts_iconst C dX12_notSpeak_8 1 rfl ?_
    exact ts_ireti C (Nat.zero_le _) (Nat.zero_le _) dX12_notSpeak_9
def wX12_speaks (p1 : Int) (Q : Int → ts_M → Prop) (M : ts_M) : Prop :=
  (wX12_spoon p1 2 (fun r2 M1 => (wX12_puts p1 2 (r2 - 1) (fun M3 => (wX12_spoon p1 3 (fun r5 M4 => (wX12_puts p1 3 (r5 + 1) (fun M6 => (∀ M7, M7 = ts_si M6 165 10 ((M6.1 165 10) + 1) → (wX12_spoon p1 3 (fun r9 M8 => Q r9 M8) M7))) M4)) M3)) M1)) M)
set_option maxRecDepth 100000 in
set_option maxHeartbeats 4000000 in
theorem mX12_speaks {l : Launch} {g : ts_W} (hl : l.stackTraces = false) {p1 : Int} {Q : Int → ts_M → Prop} {M : ts_M} : wX12_speaks p1 Q M → ts_Con l g yX12_speaks cX12_speaks 2 (some .int) 1 0 0 [.ref (ts_ad g 164), ts_v p1] M (ts_Ri Q) := by
  intro h0
  refine ts_Con.of hl (by decide) (Nat.le_of_ble_eq_true rfl) ?_
  intro p e s m args below meth c C
  revert h0
  unfold wX12_speaks
  have hl0 : lv_args 0 [.ref (ts_ad g 164), ts_v p1] = [(0, .ref (ts_ad g 164)), (1, ts_v p1)] := rfl
  rw [hl0]
  refine ts_aload_n C dX12_speaks_0 rfl 0 rfl ?_
  refine ts_iload_n C dX12_speaks_1 rfl 1 rfl ?_
  refine ts_iconst C dX12_speaks_2 2 rfl ?_
  refine ts_aload_n C dX12_speaks_3 rfl 0 rfl ?_
  refine ts_iload_n C dX12_speaks_4 rfl 1 rfl ?_
  refine ts_iconst C dX12_speaks_5 2 rfl ?_
  refine ts_callVi C [ts_v p1, ts_v 2] (mX12_spoon hl) kX12_spoon q_2149 (by decide) shX12 rfl rfl rfl (Nat.le_of_ble_eq_true rfl) ⟨Nat.le_of_ble_eq_true rfl, Nat.le_of_ble_eq_true rfl⟩ ⟨Nat.le_of_ble_eq_true rfl, Nat.le_of_ble_eq_true rfl⟩ dX12_speaks_6 (fun r2 M1 => ?_)
  refine ts_iconst C dX12_speaks_9 1 rfl ?_
  refine ts_isub C dX12_speaks_10 ?_
  refine ts_callVv C [ts_v p1, ts_v 2, ts_v (r2 - 1)] (mX12_puts hl) kX12_puts q_2057 (by decide) shX12 rfl rfl rfl (Nat.le_of_ble_eq_true rfl) ⟨Nat.le_of_ble_eq_true rfl, Nat.le_of_ble_eq_true rfl⟩ ⟨Nat.le_of_ble_eq_true rfl, Nat.le_of_ble_eq_true rfl⟩ dX12_speaks_11 (fun M3 => ?_)
  refine ts_aload_n C dX12_speaks_14 rfl 0 rfl ?_
  refine ts_iload_n C dX12_speaks_15 rfl 1 rfl ?_
  refine ts_iconst C dX12_speaks_16 3 rfl ?_
  refine ts_aload_n C dX12_speaks_17 rfl 0 rfl ?_
  refine ts_iload_n C dX12_speaks_18 rfl 1 rfl ?_
  refine ts_iconst C dX12_speaks_19 3 rfl ?_
  refine ts_callVi C [ts_v p1, ts_v 3] (mX12_spoon hl) kX12_spoon q_2149 (by decide) shX12 rfl rfl rfl (Nat.le_of_ble_eq_true rfl) ⟨Nat.le_of_ble_eq_true rfl, Nat.le_of_ble_eq_true rfl⟩ ⟨Nat.le_of_ble_eq_true rfl, Nat.le_of_ble_eq_true rfl⟩ dX12_speaks_20 (fun r5 M4 => ?_)
  refine ts_iconst C dX12_speaks_23 1 rfl ?_
  refine ts_iadd C dX12_speaks_24 ?_
  refine ts_callVv C [ts_v p1, ts_v 3, ts_v (r5 + 1)] (mX12_puts hl) kX12_puts q_2057 (by decide) shX12 rfl rfl rfl (Nat.le_of_ble_eq_true rfl) ⟨Nat.le_of_ble_eq_true rfl, Nat.le_of_ble_eq_true rfl⟩ ⟨Nat.le_of_ble_eq_true rfl, Nat.le_of_ble_eq_true rfl⟩ dX12_speaks_25 (fun M6 => ?_)
  refine ts_aload_n C dX12_speaks_28 rfl 0 rfl ?_
  refine tgX12_1 C q_1959 dX12_speaks_29 ?_
  refine ts_bipush C dX12_speaks_32 10 tb_10 ?_
  refine ts_dup2 C dX12_speaks_34 rfl rfl ?_
  refine ts_ialdc C (by decide) shG165 tw_10 (by decide) dX12_speaks_35 ?_
  refine ts_iconst C dX12_speaks_36 1 rfl ?_
  refine ts_iadd C dX12_speaks_37 ?_
  refine ts_iastc C (by decide) shG165 tw_10 (by decide) dX12_speaks_38 (fun M7 => ?_)
  refine ts_aload_n C dX12_speaks_39 rfl 0 rfl ?_
  refine ts_iload_n C dX12_speaks_40 rfl 1 rfl ?_
  refine ts_iconst C dX12_speaks_41 3 rfl ?_
  refine ts_callVi C [ts_v p1, ts_v 3] (mX12_spoon hl) kX12_spoon q_2149 (by decide) shX12 rfl rfl rfl (Nat.le_of_ble_eq_true rfl) ⟨Nat.le_of_ble_eq_true rfl, Nat.le_of_ble_eq_true rfl⟩ ⟨Nat.le_of_ble_eq_true rfl, Nat.le_of_ble_eq_true rfl⟩ dX12_speaks_42 (fun r9 M8 => ?_)
  exact ts_ireti C (Nat.zero_le _) (Nat.zero_le _) dX12_speaks_45
def wX12_speak (p1 : Int) (Q : Int → ts_M → Prop) (M : ts_M) : Prop :=
  (∀ M1, M1 = ts_si M 164 0 0 → (wX12_notSpeak p1 (fun r3 M2 => (∀ x4 : Int, x4 = r3 → ((ts_w x4 = 0 → (wX12_remembers  (fun M5 => (wX12_speaks p1 (fun r7 M6 => Q r7 M6) M5)) M2)) ∧ (¬ (ts_w x4 = 0) → (wX12_fails x4 (fun r9 M8 => Q r9 M8) M2))))) M1))
set_option maxRecDepth 100000 in
set_option maxHeartbeats 4000000 in
theorem mX12_speak {l : Launch} {g : ts_W} (hl : l.stackTraces = false) {p1 : Int} {Q : Int → ts_M → Prop} {M : ts_M} : wX12_speak p1 Q M → ts_Con l g yX12_speak cX12_speak 3 (some .int) 3 0 0 [.ref (ts_ad g 164), ts_v p1] M (ts_Ri Q) := by
  intro h0
  refine ts_Con.of hl (by decide) (Nat.le_of_ble_eq_true rfl) ?_
  intro p e s m args below meth c C
  revert h0
  unfold wX12_speak
  have hl0 : lv_args 0 [.ref (ts_ad g 164), ts_v p1] = [(0, .ref (ts_ad g 164)), (1, ts_v p1)] := rfl
  rw [hl0]
  refine ts_aload_n C dX12_speak_0 rfl 0 rfl ?_
  refine ts_iconst C dX12_speak_1 0 rfl ?_
  refine tpX12_0 C q_1958 dX12_speak_2 (fun M1 => ?_)
  refine ts_aload_n C dX12_speak_5 rfl 0 rfl ?_
  refine ts_iload_n C dX12_speak_6 rfl 1 rfl ?_
  refine ts_callVi C [ts_v p1] (mX12_notSpeak hl) kX12_notSpeak q_2141 (by decide) shX12 rfl rfl rfl (Nat.le_of_ble_eq_true rfl) ⟨Nat.le_of_ble_eq_true rfl, Nat.le_of_ble_eq_true rfl⟩ ⟨Nat.le_of_ble_eq_true rfl, Nat.le_of_ble_eq_true rfl⟩ dX12_speak_7 (fun r3 M2 => ?_)
  refine ts_istore_n C dX12_speak_10 rfl (by decide) (lv' := fun x4 => [(2, ts_v x4), (0, .ref (ts_ad g 164)), (1, ts_v p1)]) (fun _ => rfl) (fun x4 => ?_)
  refine ts_iload_n C dX12_speak_11 rfl 0 rfl ?_
  refine ts_cm0_eq C rfl 21 dX12_speak_12 rfl ?_ ?_
  · refine ts_aload_n C dX12_speak_21 rfl 1 rfl ?_
    refine ts_callVv C [] (mX12_remembers hl) kX12_remembers q_2041 (by decide) shX12 rfl rfl rfl (Nat.le_of_ble_eq_true rfl) ⟨Nat.le_of_ble_eq_true rfl, Nat.le_of_ble_eq_true rfl⟩ ⟨Nat.le_of_ble_eq_true rfl, Nat.le_of_ble_eq_true rfl⟩ dX12_speak_22 (fun M5 => ?_)
    refine ts_aload_n C dX12_speak_25 rfl 1 rfl ?_
    refine ts_iload_n C dX12_speak_26 rfl 2 rfl ?_
    refine ts_callVi C [ts_v p1] (mX12_speaks hl) kX12_speaks q_2153 (by decide) shX12 rfl rfl rfl (Nat.le_of_ble_eq_true rfl) ⟨Nat.le_of_ble_eq_true rfl, Nat.le_of_ble_eq_true rfl⟩ ⟨Nat.le_of_ble_eq_true rfl, Nat.le_of_ble_eq_true rfl⟩ dX12_speak_27 (fun r7 M6 => ?_)
    exact ts_ireti C (Nat.zero_le _) (Nat.zero_le _) dX12_speak_30
  · refine ts_aload_n C dX12_speak_15 rfl 1 rfl ?_
    refine ts_iload_n C dX12_speak_16 rfl 0 rfl ?_
    refine ts_callVi C [ts_v x4] (mX12_fails hl) kX12_fails q_2037 (by decide) shX12 rfl rfl rfl (Nat.le_of_ble_eq_true rfl) ⟨Nat.le_of_ble_eq_true rfl, Nat.le_of_ble_eq_true rfl⟩ ⟨Nat.le_of_ble_eq_true rfl, Nat.le_of_ble_eq_true rfl⟩ dX12_speak_17 (fun r9 M8 => ?_)
    exact ts_ireti C (Nat.zero_le _) (Nat.zero_le _) dX12_speak_20
def wX12_mainPosition (Q : Int → ts_M → Prop) (M : ts_M) : Prop :=
  (wX12_place (M.1 165 60) (fun r2 M1 => (wX12_positionAt r2 (fun r4 M3 => Q r4 M3) M1)) M)
set_option maxRecDepth 100000 in
set_option maxHeartbeats 4000000 in
theorem mX12_mainPosition {l : Launch} {g : ts_W} (hl : l.stackTraces = false) {Q : Int → ts_M → Prop} {M : ts_M} : wX12_mainPosition Q M → ts_Con l g yX12_mainPosition cX12_mainPosition 1 (some .int) 2 0 0 [.ref (ts_ad g 164)] M (ts_Ri Q) := by
  intro h0
  refine ts_Con.of hl (by decide) (Nat.le_of_ble_eq_true rfl) ?_
  intro p e s m args below meth c C
  revert h0
  unfold wX12_mainPosition
  have hl0 : lv_args 0 [.ref (ts_ad g 164)] = [(0, .ref (ts_ad g 164))] := rfl
  rw [hl0]
  refine ts_aload_n C dX12_mainPosition_0 rfl 0 rfl ?_
  refine ts_aload_n C dX12_mainPosition_1 rfl 0 rfl ?_
  refine ts_aload_n C dX12_mainPosition_2 rfl 0 rfl ?_
  refine tgX12_1 C q_1959 dX12_mainPosition_3 ?_
  refine ts_bipush C dX12_mainPosition_6 60 tb_60 ?_
  refine ts_ialdc C (by decide) shG165 tw_60 (by decide) dX12_mainPosition_8 ?_
  refine ts_callVi C [ts_v (M.1 165 60)] (mX12_place hl) kX12_place q_2085 (by decide) shX12 rfl rfl rfl (Nat.le_of_ble_eq_true rfl) ⟨Nat.le_of_ble_eq_true rfl, Nat.le_of_ble_eq_true rfl⟩ ⟨Nat.le_of_ble_eq_true rfl, Nat.le_of_ble_eq_true rfl⟩ dX12_mainPosition_9 (fun r2 M1 => ?_)
  refine ts_callVi C [ts_v r2] (mX12_positionAt hl) kX12_positionAt q_2189 (by decide) shX12 rfl rfl rfl (Nat.le_of_ble_eq_true rfl) ⟨Nat.le_of_ble_eq_true rfl, Nat.le_of_ble_eq_true rfl⟩ ⟨Nat.le_of_ble_eq_true rfl, Nat.le_of_ble_eq_true rfl⟩ dX12_mainPosition_12 (fun r4 M3 => ?_)
  exact ts_ireti C (Nat.zero_le _) (Nat.zero_le _) dX12_mainPosition_15
def wX12_changed_B33   (Q : Int → ts_M → Prop)  (z0 : Int) (M : ts_M) : Prop :=
  Q z0 M
def wX12_changed (Q : Int → ts_M → Prop) (M : ts_M) : Prop :=
  (wX12_mainPosition  (fun r2 M1 => (∀ x3 : Int, x3 = r2 + (M1.1 165 61) → ((0 ≤ ts_w x3 → ((ts_w x3 ≤ 99 → wX12_changed_B33 Q x3 M1) ∧ (¬ (ts_w x3 ≤ 99) → wX12_changed_B33 Q 99 M1))) ∧ (¬ (0 ≤ ts_w x3) → wX12_changed_B33 Q 0 M1)))) M)
set_option maxRecDepth 100000 in
set_option maxHeartbeats 4000000 in
theorem mX12_changed {l : Launch} {g : ts_W} (hl : l.stackTraces = false) {Q : Int → ts_M → Prop} {M : ts_M} : wX12_changed Q M → ts_Con l g yX12_changed cX12_changed 2 (some .int) 3 0 0 [.ref (ts_ad g 164)] M (ts_Ri Q) := by
  intro h0
  refine ts_Con.of hl (by decide) (Nat.le_of_ble_eq_true rfl) ?_
  intro p e s m args below meth c C
  have H33 : ∀ (z0 : Int) (M : ts_M), wX12_changed_B33   Q z0 M → ts_V p l e (ts_rm 3 0 0) s m args below meth c g 2 0 0 (MQ below (ts_Q g (ts_Ri Q)) args s 0 0 (ts_A g)) 33 [] [ts_v z0] M := by
    intro  z0 M
    unfold wX12_changed_B33
    exact ts_ireti C (Nat.zero_le _) (Nat.zero_le _) dX12_changed_33
  revert h0
  unfold wX12_changed
  have hl0 : lv_args 0 [.ref (ts_ad g 164)] = [(0, .ref (ts_ad g 164))] := rfl
  rw [hl0]
  refine ts_aload_n C dX12_changed_0 rfl 0 rfl ?_
  refine ts_callVi C [] (mX12_mainPosition hl) kX12_mainPosition q_2185 (by decide) shX12 rfl rfl rfl (Nat.le_of_ble_eq_true rfl) ⟨Nat.le_of_ble_eq_true rfl, Nat.le_of_ble_eq_true rfl⟩ ⟨Nat.le_of_ble_eq_true rfl, Nat.le_of_ble_eq_true rfl⟩ dX12_changed_1 (fun r2 M1 => ?_)
  refine ts_aload_n C dX12_changed_4 rfl 0 rfl ?_
  refine tgX12_1 C q_1959 dX12_changed_5 ?_
  refine ts_bipush C dX12_changed_8 61 tb_61 ?_
  refine ts_ialdc C (by decide) shG165 tw_61 (by decide) dX12_changed_10 ?_
  refine ts_iadd C dX12_changed_11 ?_
  refine ts_istore_n C dX12_changed_12 rfl (by decide) (lv' := fun x3 => [(1, ts_v x3), (0, .ref (ts_ad g 164))]) (fun _ => rfl) (fun x3 => ?_)
  refine ts_iload_n C dX12_changed_13 rfl 0 rfl ?_
  refine ts_cm0_ge C rfl 21 dX12_changed_14 rfl ?_ ?_
  · refine ts_iload_n C dX12_changed_21 rfl 0 rfl ?_
    refine ts_bipush C dX12_changed_22 99 tb_99 ?_
    refine ts_cmp_le C rfl tw_99 32 dX12_changed_24 rfl ?_ ?_
    · refine ts_iload_n C dX12_changed_32 rfl 0 rfl ?_
      exact ts_sub [] rfl (H33 _ _)
    · refine ts_bipush C dX12_changed_27 99 tb_99 ?_
      refine ts_goto C 33 dX12_changed_29 rfl ?_
      exact ts_sub [] rfl (H33 _ _)
  · refine ts_iconst C dX12_changed_17 0 rfl ?_
    refine ts_goto C 33 dX12_changed_18 rfl ?_
    exact ts_sub [] rfl (H33 _ _)
def wX12_likesMain_B23   (Q : Int → ts_M → Prop)  (z0 : Int) (M : ts_M) : Prop :=
  ((ts_w z0 = 0 ∨ ts_w z0 = 1) ∧ Q z0 M)
def wX12_likesMain (p1 : Int) (Q : Int → ts_M → Prop) (M : ts_M) : Prop :=
  (wX12_mainPosition  (fun r2 M1 => (wX12_spoon p1 1 (fun r4 M3 => (wX12_difference r2 r4 (fun r6 M5 => ((25 < ts_w r6 → wX12_likesMain_B23 Q 0 M5) ∧ (¬ (25 < ts_w r6) → wX12_likesMain_B23 Q 1 M5))) M3)) M1)) M)
set_option maxRecDepth 100000 in
set_option maxHeartbeats 4000000 in
theorem mX12_likesMain {l : Launch} {g : ts_W} (hl : l.stackTraces = false) {p1 : Int} {Q : Int → ts_M → Prop} {M : ts_M} : wX12_likesMain p1 Q M → ts_Con l g yX12_likesMain cX12_likesMain 2 (some .boolean) 3 0 0 [.ref (ts_ad g 164), ts_v p1] M (ts_Ri Q) := by
  intro h0
  refine ts_Con.of hl (by decide) (Nat.le_of_ble_eq_true rfl) ?_
  intro p e s m args below meth c C
  have H23 : ∀ (z0 : Int) (M : ts_M), wX12_likesMain_B23   Q z0 M → ts_V p l e (ts_rm 3 0 0) s m args below meth c g 2 0 0 (MQ below (ts_Q g (ts_Ri Q)) args s 0 0 (ts_A g)) 23 [] [ts_v z0] M := by
    intro  z0 M
    unfold wX12_likesMain_B23
    exact ts_zreti C (Nat.zero_le _) (Nat.zero_le _) dX12_likesMain_23
  revert h0
  unfold wX12_likesMain
  have hl0 : lv_args 0 [.ref (ts_ad g 164), ts_v p1] = [(0, .ref (ts_ad g 164)), (1, ts_v p1)] := rfl
  rw [hl0]
  refine ts_aload_n C dX12_likesMain_0 rfl 0 rfl ?_
  refine ts_callVi C [] (mX12_mainPosition hl) kX12_mainPosition q_2185 (by decide) shX12 rfl rfl rfl (Nat.le_of_ble_eq_true rfl) ⟨Nat.le_of_ble_eq_true rfl, Nat.le_of_ble_eq_true rfl⟩ ⟨Nat.le_of_ble_eq_true rfl, Nat.le_of_ble_eq_true rfl⟩ dX12_likesMain_1 (fun r2 M1 => ?_)
  refine ts_aload_n C dX12_likesMain_4 rfl 0 rfl ?_
  refine ts_iload_n C dX12_likesMain_5 rfl 1 rfl ?_
  refine ts_iconst C dX12_likesMain_6 1 rfl ?_
  refine ts_callVi C [ts_v p1, ts_v 1] (mX12_spoon hl) kX12_spoon q_2149 (by decide) shX12 rfl rfl rfl (Nat.le_of_ble_eq_true rfl) ⟨Nat.le_of_ble_eq_true rfl, Nat.le_of_ble_eq_true rfl⟩ ⟨Nat.le_of_ble_eq_true rfl, Nat.le_of_ble_eq_true rfl⟩ dX12_likesMain_7 (fun r4 M3 => ?_)
  refine ts_callSi C [ts_v r2, ts_v r4] (mX12_difference hl) kX12_difference q_2193 rfl rfl (Nat.le_of_ble_eq_true rfl) ⟨Nat.le_of_ble_eq_true rfl, Nat.le_of_ble_eq_true rfl⟩ ⟨Nat.le_of_ble_eq_true rfl, Nat.le_of_ble_eq_true rfl⟩ dX12_likesMain_10 (fun r6 M5 => ?_)
  refine ts_bipush C dX12_likesMain_13 25 tb_25 ?_
  refine ts_cmp_gt C rfl tw_25 22 dX12_likesMain_15 rfl ?_ ?_
  · refine ts_iconst C dX12_likesMain_22 0 rfl ?_
    exact ts_sub [] rfl (H23 _ _)
  · refine ts_iconst C dX12_likesMain_18 1 rfl ?_
    refine ts_goto C 23 dX12_likesMain_19 rfl ?_
    exact ts_sub [] rfl (H23 _ _)
def wX12_isFor_B76   (Q : Int → ts_M → Prop)  (z0 : Int) (M : ts_M) : Prop :=
  ((ts_w z0 = 0 ∨ ts_w z0 = 1) ∧ Q z0 M)
def wX12_isFor_B90   (Q : Int → ts_M → Prop)  (z0 : Int) (M : ts_M) : Prop :=
  ((ts_w z0 = 0 ∨ ts_w z0 = 1) ∧ Q z0 M)
def wX12_isFor_B105   (Q : Int → ts_M → Prop)  (z0 : Int) (M : ts_M) : Prop :=
  ((ts_w z0 = 0 ∨ ts_w z0 = 1) ∧ Q z0 M)
def wX12_isFor_B121   (Q : Int → ts_M → Prop)  (z0 : Int) (M : ts_M) : Prop :=
  ((ts_w z0 = 0 ∨ ts_w z0 = 1) ∧ Q z0 M)
def wX12_isFor (p1 : Int) (Q : Int → ts_M → Prop) (M : ts_M) : Prop :=
  (wX12_top  (fun r2 M1 => ((ts_w r2 = 0 → (wX12_likesMain p1 (fun r4 M3 => ((ts_w r4 = 0 ∨ ts_w r4 = 1) ∧ Q r4 M3)) M1)) ∧ (¬ (ts_w r2 = 0) → ((ts_w r2 = 1 → (wX12_changed  (fun r6 M5 => (wX12_spoon p1 1 (fun r8 M7 => (wX12_difference r6 r8 (fun r10 M9 => (wX12_mainPosition  (fun r12 M11 => (wX12_spoon p1 1 (fun r14 M13 => (wX12_difference r12 r14 (fun r16 M15 => ((ts_w r16 ≤ ts_w r10 → wX12_isFor_B76 Q 0 M15) ∧ (¬ (ts_w r16 ≤ ts_w r10) → wX12_isFor_B76 Q 1 M15))) M13)) M11)) M9)) M7)) M5)) M1)) ∧ (¬ (ts_w r2 = 1) → ((ts_w r2 = 2 → (wX12_likesMain p1 (fun r18 M17 => ((¬ (ts_w r18 = 0) → wX12_isFor_B90 Q 0 M17) ∧ (ts_w r18 = 0 → wX12_isFor_B90 Q 1 M17))) M1)) ∧ (¬ (ts_w r2 = 2) → ((ts_w r2 = 3 → (wX12_spoon p1 3 (fun r20 M19 => ((ts_w r20 ≤ 0 → wX12_isFor_B105 Q 0 M19) ∧ (¬ (ts_w r20 ≤ 0) → wX12_isFor_B105 Q 1 M19))) M1)) ∧ (¬ (ts_w r2 = 3) → (wX12_spoon p1 2 (fun r22 M21 => ((3 ≤ ts_w r22 → wX12_isFor_B121 Q 0 M21) ∧ (¬ (3 ≤ ts_w r22) → wX12_isFor_B121 Q 1 M21))) M1)))))))))) M)
set_option maxRecDepth 100000 in
set_option maxHeartbeats 4000000 in
theorem mX12_isFor {l : Launch} {g : ts_W} (hl : l.stackTraces = false) {p1 : Int} {Q : Int → ts_M → Prop} {M : ts_M} : wX12_isFor p1 Q M → ts_Con l g yX12_isFor cX12_isFor 2 (some .boolean) 4 0 0 [.ref (ts_ad g 164), ts_v p1] M (ts_Ri Q) := by
  intro h0
  refine ts_Con.of hl (by decide) (Nat.le_of_ble_eq_true rfl) ?_
  intro p e s m args below meth c C
  have H76 : ∀ (z0 : Int) (M : ts_M), wX12_isFor_B76   Q z0 M → ts_V p l e (ts_rm 4 0 0) s m args below meth c g 2 0 0 (MQ below (ts_Q g (ts_Ri Q)) args s 0 0 (ts_A g)) 76 [] [ts_v z0] M := by
    intro  z0 M
    unfold wX12_isFor_B76
    exact ts_zreti C (Nat.zero_le _) (Nat.zero_le _) dX12_isFor_76
  have H90 : ∀ (z0 : Int) (M : ts_M), wX12_isFor_B90   Q z0 M → ts_V p l e (ts_rm 4 0 0) s m args below meth c g 2 0 0 (MQ below (ts_Q g (ts_Ri Q)) args s 0 0 (ts_A g)) 90 [] [ts_v z0] M := by
    intro  z0 M
    unfold wX12_isFor_B90
    exact ts_zreti C (Nat.zero_le _) (Nat.zero_le _) dX12_isFor_90
  have H105 : ∀ (z0 : Int) (M : ts_M), wX12_isFor_B105   Q z0 M → ts_V p l e (ts_rm 4 0 0) s m args below meth c g 2 0 0 (MQ below (ts_Q g (ts_Ri Q)) args s 0 0 (ts_A g)) 105 [] [ts_v z0] M := by
    intro  z0 M
    unfold wX12_isFor_B105
    exact ts_zreti C (Nat.zero_le _) (Nat.zero_le _) dX12_isFor_105
  have H121 : ∀ (z0 : Int) (M : ts_M), wX12_isFor_B121   Q z0 M → ts_V p l e (ts_rm 4 0 0) s m args below meth c g 2 0 0 (MQ below (ts_Q g (ts_Ri Q)) args s 0 0 (ts_A g)) 121 [] [ts_v z0] M := by
    intro  z0 M
    unfold wX12_isFor_B121
    exact ts_zreti C (Nat.zero_le _) (Nat.zero_le _) dX12_isFor_121
  revert h0
  unfold wX12_isFor
  have hl0 : lv_args 0 [.ref (ts_ad g 164), ts_v p1] = [(0, .ref (ts_ad g 164)), (1, ts_v p1)] := rfl
  rw [hl0]
  refine ts_aload_n C dX12_isFor_0 rfl 0 rfl ?_
  refine ts_callVi C [] (mX12_top hl) kX12_top q_2097 (by decide) shX12 rfl rfl rfl (Nat.le_of_ble_eq_true rfl) ⟨Nat.le_of_ble_eq_true rfl, Nat.le_of_ble_eq_true rfl⟩ ⟨Nat.le_of_ble_eq_true rfl, Nat.le_of_ble_eq_true rfl⟩ dX12_isFor_1 (fun r2 M1 => ?_)
  refine ts_case rfl 0 (fun e0 => ?_) (fun e0 => ?_)
  · refine ts_tabIn C 0 e0 36 dX12_isFor_4 (by decide) (by decide) rfl rfl ?_
    refine ts_aload_n C dX12_isFor_36 rfl 0 rfl ?_
    refine ts_iload_n C dX12_isFor_37 rfl 1 rfl ?_
    refine ts_callVi C [ts_v p1] (mX12_likesMain hl) kX12_likesMain q_2181 (by decide) shX12 rfl rfl rfl (Nat.le_of_ble_eq_true rfl) ⟨Nat.le_of_ble_eq_true rfl, Nat.le_of_ble_eq_true rfl⟩ ⟨Nat.le_of_ble_eq_true rfl, Nat.le_of_ble_eq_true rfl⟩ dX12_isFor_38 (fun r4 M3 => ?_)
    exact ts_zreti C (Nat.zero_le _) (Nat.zero_le _) dX12_isFor_41
  · refine ts_case rfl 1 (fun e1 => ?_) (fun e1 => ?_)
    · refine ts_tabIn C 1 e1 42 dX12_isFor_4 (by decide) (by decide) rfl rfl ?_
      refine ts_aload_n C dX12_isFor_42 rfl 0 rfl ?_
      refine ts_callVi C [] (mX12_changed hl) kX12_changed q_2196 (by decide) shX12 rfl rfl rfl (Nat.le_of_ble_eq_true rfl) ⟨Nat.le_of_ble_eq_true rfl, Nat.le_of_ble_eq_true rfl⟩ ⟨Nat.le_of_ble_eq_true rfl, Nat.le_of_ble_eq_true rfl⟩ dX12_isFor_43 (fun r6 M5 => ?_)
      refine ts_aload_n C dX12_isFor_46 rfl 0 rfl ?_
      refine ts_iload_n C dX12_isFor_47 rfl 1 rfl ?_
      refine ts_iconst C dX12_isFor_48 1 rfl ?_
      refine ts_callVi C [ts_v p1, ts_v 1] (mX12_spoon hl) kX12_spoon q_2149 (by decide) shX12 rfl rfl rfl (Nat.le_of_ble_eq_true rfl) ⟨Nat.le_of_ble_eq_true rfl, Nat.le_of_ble_eq_true rfl⟩ ⟨Nat.le_of_ble_eq_true rfl, Nat.le_of_ble_eq_true rfl⟩ dX12_isFor_49 (fun r8 M7 => ?_)
      refine ts_callSi C [ts_v r6, ts_v r8] (mX12_difference hl) kX12_difference q_2193 rfl rfl (Nat.le_of_ble_eq_true rfl) ⟨Nat.le_of_ble_eq_true rfl, Nat.le_of_ble_eq_true rfl⟩ ⟨Nat.le_of_ble_eq_true rfl, Nat.le_of_ble_eq_true rfl⟩ dX12_isFor_52 (fun r10 M9 => ?_)
      refine ts_aload_n C dX12_isFor_55 rfl 0 rfl ?_
      refine ts_callVi C [] (mX12_mainPosition hl) kX12_mainPosition q_2185 (by decide) shX12 rfl rfl rfl (Nat.le_of_ble_eq_true rfl) ⟨Nat.le_of_ble_eq_true rfl, Nat.le_of_ble_eq_true rfl⟩ ⟨Nat.le_of_ble_eq_true rfl, Nat.le_of_ble_eq_true rfl⟩ dX12_isFor_56 (fun r12 M11 => ?_)
      refine ts_aload_n C dX12_isFor_59 rfl 0 rfl ?_
      refine ts_iload_n C dX12_isFor_60 rfl 1 rfl ?_
      refine ts_iconst C dX12_isFor_61 1 rfl ?_
      refine ts_callVi C [ts_v p1, ts_v 1] (mX12_spoon hl) kX12_spoon q_2149 (by decide) shX12 rfl rfl rfl (Nat.le_of_ble_eq_true rfl) ⟨Nat.le_of_ble_eq_true rfl, Nat.le_of_ble_eq_true rfl⟩ ⟨Nat.le_of_ble_eq_true rfl, Nat.le_of_ble_eq_true rfl⟩ dX12_isFor_62 (fun r14 M13 => ?_)
      refine ts_callSi C [ts_v r12, ts_v r14] (mX12_difference hl) kX12_difference q_2193 rfl rfl (Nat.le_of_ble_eq_true rfl) ⟨Nat.le_of_ble_eq_true rfl, Nat.le_of_ble_eq_true rfl⟩ ⟨Nat.le_of_ble_eq_true rfl, Nat.le_of_ble_eq_true rfl⟩ dX12_isFor_65 (fun r16 M15 => ?_)
      refine ts_cmp_ge C rfl rfl 75 dX12_isFor_68 rfl ?_ ?_
      · refine ts_iconst C dX12_isFor_75 0 rfl ?_
        exact ts_sub [] rfl (H76 _ _)
      · refine ts_iconst C dX12_isFor_71 1 rfl ?_
        refine ts_goto C 76 dX12_isFor_72 rfl ?_
        exact ts_sub [] rfl (H76 _ _)
    · refine ts_case rfl 2 (fun e2 => ?_) (fun e2 => ?_)
      · refine ts_tabIn C 2 e2 77 dX12_isFor_4 (by decide) (by decide) rfl rfl ?_
        refine ts_aload_n C dX12_isFor_77 rfl 0 rfl ?_
        refine ts_iload_n C dX12_isFor_78 rfl 1 rfl ?_
        refine ts_callVi C [ts_v p1] (mX12_likesMain hl) kX12_likesMain q_2181 (by decide) shX12 rfl rfl rfl (Nat.le_of_ble_eq_true rfl) ⟨Nat.le_of_ble_eq_true rfl, Nat.le_of_ble_eq_true rfl⟩ ⟨Nat.le_of_ble_eq_true rfl, Nat.le_of_ble_eq_true rfl⟩ dX12_isFor_79 (fun r18 M17 => ?_)
        refine ts_cm0_ne C rfl 89 dX12_isFor_82 rfl ?_ ?_
        · refine ts_iconst C dX12_isFor_89 0 rfl ?_
          exact ts_sub [] rfl (H90 _ _)
        · refine ts_iconst C dX12_isFor_85 1 rfl ?_
          refine ts_goto C 90 dX12_isFor_86 rfl ?_
          exact ts_sub [] rfl (H90 _ _)
      · refine ts_case rfl 3 (fun e3 => ?_) (fun e3 => ?_)
        · refine ts_tabIn C 3 e3 91 dX12_isFor_4 (by decide) (by decide) rfl rfl ?_
          refine ts_aload_n C dX12_isFor_91 rfl 0 rfl ?_
          refine ts_iload_n C dX12_isFor_92 rfl 1 rfl ?_
          refine ts_iconst C dX12_isFor_93 3 rfl ?_
          refine ts_callVi C [ts_v p1, ts_v 3] (mX12_spoon hl) kX12_spoon q_2149 (by decide) shX12 rfl rfl rfl (Nat.le_of_ble_eq_true rfl) ⟨Nat.le_of_ble_eq_true rfl, Nat.le_of_ble_eq_true rfl⟩ ⟨Nat.le_of_ble_eq_true rfl, Nat.le_of_ble_eq_true rfl⟩ dX12_isFor_94 (fun r20 M19 => ?_)
          refine ts_cm0_le C rfl 104 dX12_isFor_97 rfl ?_ ?_
          · refine ts_iconst C dX12_isFor_104 0 rfl ?_
            exact ts_sub [] rfl (H105 _ _)
          · refine ts_iconst C dX12_isFor_100 1 rfl ?_
            refine ts_goto C 105 dX12_isFor_101 rfl ?_
            exact ts_sub [] rfl (H105 _ _)
        · refine ts_tabOut C 106 dX12_isFor_4 (by omega) rfl ?_
          refine ts_aload_n C dX12_isFor_106 rfl 0 rfl ?_
          refine ts_iload_n C dX12_isFor_107 rfl 1 rfl ?_
          refine ts_iconst C dX12_isFor_108 2 rfl ?_
          refine ts_callVi C [ts_v p1, ts_v 2] (mX12_spoon hl) kX12_spoon q_2149 (by decide) shX12 rfl rfl rfl (Nat.le_of_ble_eq_true rfl) ⟨Nat.le_of_ble_eq_true rfl, Nat.le_of_ble_eq_true rfl⟩ ⟨Nat.le_of_ble_eq_true rfl, Nat.le_of_ble_eq_true rfl⟩ dX12_isFor_109 (fun r22 M21 => ?_)
          refine ts_iconst C dX12_isFor_112 3 rfl ?_
          refine ts_cmp_ge C rfl tw_3 120 dX12_isFor_113 rfl ?_ ?_
          · refine ts_iconst C dX12_isFor_120 0 rfl ?_
            exact ts_sub [] rfl (H121 _ _)
          · refine ts_iconst C dX12_isFor_116 1 rfl ?_
            refine ts_goto C 121 dX12_isFor_117 rfl ?_
            exact ts_sub [] rfl (H121 _ _)
def wX12_yes_B33  (k4 : Int → Int → ts_M → Prop) (Q : Int → ts_M → Prop)  (y2 : Int) (z0 : Int) (z1 : Int) (M : ts_M) : Prop :=
  (∀ x5 : Int, x5 = z1 + z0 → (∀ x6 : Int, x6 = y2 + 1 → k4 x5 x6 M))
def wX12_yes_L4   (Q : Int → ts_M → Prop) (k4 : Int → Int → ts_M → Prop) (y1 : Int) (y2 : Int) (M : ts_M) : Prop :=
  ((ts_w (M.1 165 0) ≤ ts_w y2 → Q y1 M) ∧ (¬ (ts_w (M.1 165 0) ≤ ts_w y2) → (wX12_isFor y2 (fun r4 M3 => ((ts_w r4 = 0 → wX12_yes_B33 k4 Q y2 0 y1 M3) ∧ (¬ (ts_w r4 = 0) → (wX12_spoon y2 0 (fun r8 M7 => wX12_yes_B33 k4 Q y2 r8 y1 M7) M3)))) M)))
def wX12_yes (Q : Int → ts_M → Prop) (M : ts_M) : Prop :=
  (∀ x1 : Int, x1 = 0 → (∀ x2 : Int, x2 = 0 → ∃ n, ts_lp2 (wX12_yes_L4 Q) n x1 x2 M))
set_option maxRecDepth 100000 in
set_option maxHeartbeats 4000000 in
theorem mX12_yes {l : Launch} {g : ts_W} (hl : l.stackTraces = false) {Q : Int → ts_M → Prop} {M : ts_M} : wX12_yes Q M → ts_Con l g yX12_yes cX12_yes 3 (some .int) 5 0 0 [.ref (ts_ad g 164)] M (ts_Ri Q) := by
  intro h0
  refine ts_Con.of hl (by decide) (Nat.le_of_ble_eq_true rfl) ?_
  intro p e s m args below meth c C
  have H33 : ∀ (k4 : Int → Int → ts_M → Prop) (hk4 : ∀ (y1 : Int) (y2 : Int) (M : ts_M), k4 y1 y2 M → ts_V p l e (ts_rm 5 0 0) s m args below meth c g 3 0 0 (MQ below (ts_Q g (ts_Ri Q)) args s 0 0 (ts_A g)) 4 [(0, .ref (ts_ad g 164)), (1, ts_v y1), (2, ts_v y2)] [] M) (y2 : Int) (z0 : Int) (z1 : Int) (M : ts_M), wX12_yes_B33  k4 Q y2 z0 z1 M → ts_V p l e (ts_rm 5 0 0) s m args below meth c g 3 0 0 (MQ below (ts_Q g (ts_Ri Q)) args s 0 0 (ts_A g)) 33 [(0, .ref (ts_ad g 164)), (2, ts_v y2)] [ts_v z0, ts_v z1] M := by
    intro k4 hk4 y2 z0 z1 M
    unfold wX12_yes_B33
    refine ts_iadd C dX12_yes_33 ?_
    refine ts_istore_n C dX12_yes_34 rfl (by decide) (lv' := fun x5 => [(1, ts_v x5), (0, .ref (ts_ad g 164)), (2, ts_v y2)]) (fun _ => rfl) (fun x5 => ?_)
    refine ts_iinc C dX12_yes_35 2 rfl (by decide) (lv' := fun x6 => [(2, ts_v x6), (1, ts_v x5), (0, .ref (ts_ad g 164))]) (fun _ => rfl) (fun x6 => ?_)
    refine ts_goto C 4 dX12_yes_38 rfl ?_
    exact ts_sub [2, 1, 0] rfl (hk4 _ _ _)
  have H4 : ∀ (n : Nat) (y1 : Int) (y2 : Int) (M : ts_M), ts_lp2 (wX12_yes_L4   Q) n y1 y2 M → ts_V p l e (ts_rm 5 0 0) s m args below meth c g 3 0 0 (MQ below (ts_Q g (ts_Ri Q)) args s 0 0 (ts_A g)) 4 [(0, .ref (ts_ad g 164)), (1, ts_v y1), (2, ts_v y2)] [] M := by
    refine ts_lpr2 (V := fun (y1 : Int) (y2 : Int) (M : ts_M) => ts_V p l e (ts_rm 5 0 0) s m args below meth c g 3 0 0 (MQ below (ts_Q g (ts_Ri Q)) args s 0 0 (ts_A g)) 4 [(0, .ref (ts_ad g 164)), (1, ts_v y1), (2, ts_v y2)] [] M) ?_
    intro k4 hk4 y1 y2 M
    unfold wX12_yes_L4
    refine ts_iload_n C dX12_yes_4 rfl 2 rfl ?_
    refine ts_aload_n C dX12_yes_5 rfl 0 rfl ?_
    refine tgX12_1 C q_1959 dX12_yes_6 ?_
    refine ts_iconst C dX12_yes_9 0 rfl ?_
    refine ts_ialdc C (by decide) shG165 tw_0 (by decide) dX12_yes_10 ?_
    refine ts_cmp_ge C rfl rfl 41 dX12_yes_11 rfl ?_ ?_
    · refine ts_iload_n C dX12_yes_41 rfl 1 rfl ?_
      exact ts_ireti C (Nat.zero_le _) (Nat.zero_le _) dX12_yes_42
    · refine ts_iload_n C dX12_yes_14 rfl 1 rfl ?_
      refine ts_aload_n C dX12_yes_15 rfl 0 rfl ?_
      refine ts_iload_n C dX12_yes_16 rfl 2 rfl ?_
      refine ts_callVi C [ts_v y2] (mX12_isFor hl) kX12_isFor q_2177 (by decide) shX12 rfl rfl rfl (Nat.le_of_ble_eq_true rfl) ⟨Nat.le_of_ble_eq_true rfl, Nat.le_of_ble_eq_true rfl⟩ ⟨Nat.le_of_ble_eq_true rfl, Nat.le_of_ble_eq_true rfl⟩ dX12_yes_17 (fun r4 M3 => ?_)
      refine ts_cm0_eq C rfl 32 dX12_yes_20 rfl ?_ ?_
      · refine ts_iconst C dX12_yes_32 0 rfl ?_
        exact ts_sub [0, 2] rfl (H33 k4 hk4 _ _ _ _)
      · refine ts_aload_n C dX12_yes_23 rfl 0 rfl ?_
        refine ts_iload_n C dX12_yes_24 rfl 2 rfl ?_
        refine ts_iconst C dX12_yes_25 0 rfl ?_
        refine ts_callVi C [ts_v y2, ts_v 0] (mX12_spoon hl) kX12_spoon q_2149 (by decide) shX12 rfl rfl rfl (Nat.le_of_ble_eq_true rfl) ⟨Nat.le_of_ble_eq_true rfl, Nat.le_of_ble_eq_true rfl⟩ ⟨Nat.le_of_ble_eq_true rfl, Nat.le_of_ble_eq_true rfl⟩ dX12_yes_26 (fun r8 M7 => ?_)
        refine ts_goto C 33 dX12_yes_29 rfl ?_
        exact ts_sub [0, 2] rfl (H33 k4 hk4 _ _ _ _)
  revert h0
  unfold wX12_yes
  have hl0 : lv_args 0 [.ref (ts_ad g 164)] = [(0, .ref (ts_ad g 164))] := rfl
  rw [hl0]
  refine ts_iconst C dX12_yes_0 0 rfl ?_
  refine ts_istore_n C dX12_yes_1 rfl (by decide) (lv' := fun x1 => [(1, ts_v x1), (0, .ref (ts_ad g 164))]) (fun _ => rfl) (fun x1 => ?_)
  refine ts_iconst C dX12_yes_2 0 rfl ?_
  refine ts_istore_n C dX12_yes_3 rfl (by decide) (lv' := fun x2 => [(2, ts_v x2), (1, ts_v x1), (0, .ref (ts_ad g 164))]) (fun _ => rfl) (fun x2 => ?_)
  rintro ⟨n, hn⟩
  exact ts_sub [2, 1, 0] rfl (H4 n _ _ _) hn
def wX12_isAdopted_B49   (Q : Int → ts_M → Prop)  (z0 : Int) (M : ts_M) : Prop :=
  ((ts_w z0 = 0 ∨ ts_w z0 = 1) ∧ Q z0 M)
def wX12_isAdopted (Q : Int → ts_M → Prop) (M : ts_M) : Prop :=
  (wX12_top  (fun r2 M1 => ((¬ (ts_w r2 = 3) → (wX12_yes  (fun r4 M3 => (wX12_weights  (fun r6 M5 => ((ts_w (2 * r4) ≤ ts_w r6 → wX12_isAdopted_B49 Q 0 M5) ∧ (¬ (ts_w (2 * r4) ≤ ts_w r6) → wX12_isAdopted_B49 Q 1 M5))) M3)) M1)) ∧ (ts_w r2 = 3 → (wX12_yes  (fun r8 M7 => (wX12_weights  (fun r10 M9 => ((ts_w (3 * r8) < ts_w (2 * r10) → wX12_isAdopted_B49 Q 0 M9) ∧ (¬ (ts_w (3 * r8) < ts_w (2 * r10)) → wX12_isAdopted_B49 Q 1 M9))) M7)) M1)))) M)
set_option maxRecDepth 100000 in
set_option maxHeartbeats 4000000 in
theorem mX12_isAdopted {l : Launch} {g : ts_W} (hl : l.stackTraces = false) {Q : Int → ts_M → Prop} {M : ts_M} : wX12_isAdopted Q M → ts_Con l g yX12_isAdopted cX12_isAdopted 1 (some .boolean) 6 0 0 [.ref (ts_ad g 164)] M (ts_Ri Q) := by
  intro h0
  refine ts_Con.of hl (by decide) (Nat.le_of_ble_eq_true rfl) ?_
  intro p e s m args below meth c C
  have H49 : ∀ (z0 : Int) (M : ts_M), wX12_isAdopted_B49   Q z0 M → ts_V p l e (ts_rm 6 0 0) s m args below meth c g 1 0 0 (MQ below (ts_Q g (ts_Ri Q)) args s 0 0 (ts_A g)) 49 [] [ts_v z0] M := by
    intro  z0 M
    unfold wX12_isAdopted_B49
    exact ts_zreti C (Nat.zero_le _) (Nat.zero_le _) dX12_isAdopted_49
  revert h0
  unfold wX12_isAdopted
  have hl0 : lv_args 0 [.ref (ts_ad g 164)] = [(0, .ref (ts_ad g 164))] := rfl
  rw [hl0]
  refine ts_aload_n C dX12_isAdopted_0 rfl 0 rfl ?_
  refine ts_callVi C [] (mX12_top hl) kX12_top q_2097 (by decide) shX12 rfl rfl rfl (Nat.le_of_ble_eq_true rfl) ⟨Nat.le_of_ble_eq_true rfl, Nat.le_of_ble_eq_true rfl⟩ ⟨Nat.le_of_ble_eq_true rfl, Nat.le_of_ble_eq_true rfl⟩ dX12_isAdopted_1 (fun r2 M1 => ?_)
  refine ts_iconst C dX12_isAdopted_4 3 rfl ?_
  refine ts_cmp_ne C rfl tw_3 31 dX12_isAdopted_5 rfl ?_ ?_
  · refine ts_iconst C dX12_isAdopted_31 2 rfl ?_
    refine ts_aload_n C dX12_isAdopted_32 rfl 0 rfl ?_
    refine ts_callVi C [] (mX12_yes hl) kX12_yes q_2173 (by decide) shX12 rfl rfl rfl (Nat.le_of_ble_eq_true rfl) ⟨Nat.le_of_ble_eq_true rfl, Nat.le_of_ble_eq_true rfl⟩ ⟨Nat.le_of_ble_eq_true rfl, Nat.le_of_ble_eq_true rfl⟩ dX12_isAdopted_33 (fun r4 M3 => ?_)
    refine ts_imul C dX12_isAdopted_36 ?_
    refine ts_aload_n C dX12_isAdopted_37 rfl 0 rfl ?_
    refine ts_callVi C [] (mX12_weights hl) kX12_weights q_2200 (by decide) shX12 rfl rfl rfl (Nat.le_of_ble_eq_true rfl) ⟨Nat.le_of_ble_eq_true rfl, Nat.le_of_ble_eq_true rfl⟩ ⟨Nat.le_of_ble_eq_true rfl, Nat.le_of_ble_eq_true rfl⟩ dX12_isAdopted_38 (fun r6 M5 => ?_)
    refine ts_cmp_le C rfl rfl 48 dX12_isAdopted_41 rfl ?_ ?_
    · refine ts_iconst C dX12_isAdopted_48 0 rfl ?_
      exact ts_sub [] rfl (H49 _ _)
    · refine ts_iconst C dX12_isAdopted_44 1 rfl ?_
      refine ts_goto C 49 dX12_isAdopted_45 rfl ?_
      exact ts_sub [] rfl (H49 _ _)
  · refine ts_iconst C dX12_isAdopted_8 3 rfl ?_
    refine ts_aload_n C dX12_isAdopted_9 rfl 0 rfl ?_
    refine ts_callVi C [] (mX12_yes hl) kX12_yes q_2173 (by decide) shX12 rfl rfl rfl (Nat.le_of_ble_eq_true rfl) ⟨Nat.le_of_ble_eq_true rfl, Nat.le_of_ble_eq_true rfl⟩ ⟨Nat.le_of_ble_eq_true rfl, Nat.le_of_ble_eq_true rfl⟩ dX12_isAdopted_10 (fun r8 M7 => ?_)
    refine ts_imul C dX12_isAdopted_13 ?_
    refine ts_iconst C dX12_isAdopted_14 2 rfl ?_
    refine ts_aload_n C dX12_isAdopted_15 rfl 0 rfl ?_
    refine ts_callVi C [] (mX12_weights hl) kX12_weights q_2200 (by decide) shX12 rfl rfl rfl (Nat.le_of_ble_eq_true rfl) ⟨Nat.le_of_ble_eq_true rfl, Nat.le_of_ble_eq_true rfl⟩ ⟨Nat.le_of_ble_eq_true rfl, Nat.le_of_ble_eq_true rfl⟩ dX12_isAdopted_16 (fun r10 M9 => ?_)
    refine ts_imul C dX12_isAdopted_19 ?_
    refine ts_cmp_lt C rfl rfl 27 dX12_isAdopted_20 rfl ?_ ?_
    · refine ts_iconst C dX12_isAdopted_27 0 rfl ?_
      refine ts_goto C 49 dX12_isAdopted_28 rfl ?_
      exact ts_sub [] rfl (H49 _ _)
    · refine ts_iconst C dX12_isAdopted_23 1 rfl ?_
      refine ts_goto C 49 dX12_isAdopted_24 rfl ?_
      exact ts_sub [] rfl (H49 _ _)
def wX12_decidesMain_B98   (Q : ts_M → Prop)   (M : ts_M) : Prop :=
  (wX12_place (M.1 165 60) (fun r3 M2 => (wX12_takesOff r3 (fun M4 => (wX12_empties  (fun M5 => Q M5) M4)) M2)) M)
def wX12_decidesMain_B52  (k2 : Int → Int → ts_M → Prop) (Q : ts_M → Prop)  (y1 : Int) (y2 : Int) (M : ts_M) : Prop :=
  (∀ x8 : Int, x8 = y2 + 1 → k2 y1 x8 M)
def wX12_decidesMain_L2   (Q : ts_M → Prop) (k2 : Int → Int → ts_M → Prop) (y1 : Int) (y2 : Int) (M : ts_M) : Prop :=
  ((ts_w (M.1 165 0) ≤ ts_w y2 → ((ts_w y1 = 0 → wX12_decidesMain_B98 Q M) ∧ (¬ (ts_w y1 = 0) → ((0 ≤ ts_w (62 + (ts_rem (M.1 165 6) 20)) ∧ ts_w (62 + (ts_rem (M.1 165 6) 20)) < ((146 : Nat) : Int)) ∧ ∀ M6, M6 = ts_si M 165 (ts_w (62 + (ts_rem (M.1 165 6) 20))) (M.1 165 60) → (∀ M7, M7 = ts_si M6 165 6 ((M6.1 165 6) + 1) → wX12_decidesMain_B98 Q M7))))) ∧ (¬ (ts_w (M.1 165 0) ≤ ts_w y2) → ((ts_w y1 = 0 → wX12_decidesMain_B52 k2 Q y1 y2 M) ∧ (¬ (ts_w y1 = 0) → (wX12_isFor y2 (fun r10 M9 => ((¬ (ts_w r10 = 0) → (wX12_spoon y2 2 (fun r12 M11 => (wX12_puts y2 2 (r12 + 2) (fun M13 => (∀ M14, M14 = ts_si M13 165 9 ((M13.1 165 9) + 2) → wX12_decidesMain_B52 k2 Q y1 y2 M14)) M11)) M9)) ∧ (ts_w r10 = 0 → wX12_decidesMain_B52 k2 Q y1 y2 M9))) M)))))
def wX12_decidesMain (p1 : Int) (Q : ts_M → Prop) (M : ts_M) : Prop :=
  (∀ x1 : Int, x1 = 0 → ∃ n, ts_lp2 (wX12_decidesMain_L2 Q) n p1 x1 M)
set_option maxRecDepth 100000 in
set_option maxHeartbeats 4000000 in
theorem mX12_decidesMain {l : Launch} {g : ts_W} (hl : l.stackTraces = false) {p1 : Int} {Q : ts_M → Prop} {M : ts_M} : wX12_decidesMain p1 Q M → ts_Con l g yX12_decidesMain cX12_decidesMain 3 none 5 0 0 [.ref (ts_ad g 164), ts_v p1] M (ts_Rv Q) := by
  intro h0
  refine ts_Con.of hl (by decide) (Nat.le_of_ble_eq_true rfl) ?_
  intro p e s m args below meth c C
  have H98 : ∀  (M : ts_M), wX12_decidesMain_B98   Q  M → ts_V p l e (ts_rm 5 0 0) s m args below meth c g 3 0 0 (MQ below (ts_Q g (ts_Rv Q)) args s 0 0 (ts_A g)) 98 [(0, .ref (ts_ad g 164))] [] M := by
    intro   M
    unfold wX12_decidesMain_B98
    refine ts_aload_n C dX12_decidesMain_98 rfl 0 rfl ?_
    refine ts_aload_n C dX12_decidesMain_99 rfl 0 rfl ?_
    refine ts_aload_n C dX12_decidesMain_100 rfl 0 rfl ?_
    refine tgX12_1 C q_1959 dX12_decidesMain_101 ?_
    refine ts_bipush C dX12_decidesMain_104 60 tb_60 ?_
    refine ts_ialdc C (by decide) shG165 tw_60 (by decide) dX12_decidesMain_106 ?_
    refine ts_callVi C [ts_v (M.1 165 60)] (mX12_place hl) kX12_place q_2085 (by decide) shX12 rfl rfl rfl (Nat.le_of_ble_eq_true rfl) ⟨Nat.le_of_ble_eq_true rfl, Nat.le_of_ble_eq_true rfl⟩ ⟨Nat.le_of_ble_eq_true rfl, Nat.le_of_ble_eq_true rfl⟩ dX12_decidesMain_107 (fun r3 M2 => ?_)
    refine ts_callVv C [ts_v r3] (mX12_takesOff hl) kX12_takesOff q_2208 (by decide) shX12 rfl rfl rfl (Nat.le_of_ble_eq_true rfl) ⟨Nat.le_of_ble_eq_true rfl, Nat.le_of_ble_eq_true rfl⟩ ⟨Nat.le_of_ble_eq_true rfl, Nat.le_of_ble_eq_true rfl⟩ dX12_decidesMain_110 (fun M4 => ?_)
    refine ts_aload_n C dX12_decidesMain_113 rfl 0 rfl ?_
    refine ts_callVv C [] (mX12_empties hl) kX12_empties q_2212 (by decide) shX12 rfl rfl rfl (Nat.le_of_ble_eq_true rfl) ⟨Nat.le_of_ble_eq_true rfl, Nat.le_of_ble_eq_true rfl⟩ ⟨Nat.le_of_ble_eq_true rfl, Nat.le_of_ble_eq_true rfl⟩ dX12_decidesMain_114 (fun M5 => ?_)
    exact ts_vreti C (Nat.zero_le _) (Nat.zero_le _) dX12_decidesMain_117
  have H52 : ∀ (k2 : Int → Int → ts_M → Prop) (hk2 : ∀ (y1 : Int) (y2 : Int) (M : ts_M), k2 y1 y2 M → ts_V p l e (ts_rm 5 0 0) s m args below meth c g 3 0 0 (MQ below (ts_Q g (ts_Rv Q)) args s 0 0 (ts_A g)) 2 [(0, .ref (ts_ad g 164)), (1, ts_v y1), (2, ts_v y2)] [] M) (y1 : Int) (y2 : Int) (M : ts_M), wX12_decidesMain_B52  k2 Q y1 y2 M → ts_V p l e (ts_rm 5 0 0) s m args below meth c g 3 0 0 (MQ below (ts_Q g (ts_Rv Q)) args s 0 0 (ts_A g)) 52 [(0, .ref (ts_ad g 164)), (1, ts_v y1), (2, ts_v y2)] [] M := by
    intro k2 hk2 y1 y2 M
    unfold wX12_decidesMain_B52
    refine ts_iinc C dX12_decidesMain_52 2 rfl (by decide) (lv' := fun x8 => [(2, ts_v x8), (0, .ref (ts_ad g 164)), (1, ts_v y1)]) (fun _ => rfl) (fun x8 => ?_)
    refine ts_goto C 2 dX12_decidesMain_55 rfl ?_
    exact ts_sub [1, 2, 0] rfl (hk2 _ _ _)
  have H2 : ∀ (n : Nat) (y1 : Int) (y2 : Int) (M : ts_M), ts_lp2 (wX12_decidesMain_L2   Q) n y1 y2 M → ts_V p l e (ts_rm 5 0 0) s m args below meth c g 3 0 0 (MQ below (ts_Q g (ts_Rv Q)) args s 0 0 (ts_A g)) 2 [(0, .ref (ts_ad g 164)), (1, ts_v y1), (2, ts_v y2)] [] M := by
    refine ts_lpr2 (V := fun (y1 : Int) (y2 : Int) (M : ts_M) => ts_V p l e (ts_rm 5 0 0) s m args below meth c g 3 0 0 (MQ below (ts_Q g (ts_Rv Q)) args s 0 0 (ts_A g)) 2 [(0, .ref (ts_ad g 164)), (1, ts_v y1), (2, ts_v y2)] [] M) ?_
    intro k2 hk2 y1 y2 M
    unfold wX12_decidesMain_L2
    refine ts_iload_n C dX12_decidesMain_2 rfl 2 rfl ?_
    refine ts_aload_n C dX12_decidesMain_3 rfl 0 rfl ?_
    refine tgX12_1 C q_1959 dX12_decidesMain_4 ?_
    refine ts_iconst C dX12_decidesMain_7 0 rfl ?_
    refine ts_ialdc C (by decide) shG165 tw_0 (by decide) dX12_decidesMain_8 ?_
    refine ts_cmp_ge C rfl rfl 58 dX12_decidesMain_9 rfl ?_ ?_
    · refine ts_iload_n C dX12_decidesMain_58 rfl 1 rfl ?_
      refine ts_cm0_eq C rfl 98 dX12_decidesMain_59 rfl ?_ ?_
      · exact ts_sub [0] rfl (H98 _)
      · refine ts_aload_n C dX12_decidesMain_62 rfl 0 rfl ?_
        refine tgX12_1 C q_1959 dX12_decidesMain_63 ?_
        refine ts_bipush C dX12_decidesMain_66 62 tb_62 ?_
        refine ts_aload_n C dX12_decidesMain_68 rfl 0 rfl ?_
        refine tgX12_1 C q_1959 dX12_decidesMain_69 ?_
        refine ts_bipush C dX12_decidesMain_72 6 tb_6 ?_
        refine ts_ialdc C (by decide) shG165 tw_6 (by decide) dX12_decidesMain_74 ?_
        refine ts_bipush C dX12_decidesMain_75 20 tb_20 ?_
        refine ts_iremc C (by rw [tw_20]; decide) dX12_decidesMain_77 ?_
        refine ts_iadd C dX12_decidesMain_78 ?_
        refine ts_aload_n C dX12_decidesMain_79 rfl 0 rfl ?_
        refine tgX12_1 C q_1959 dX12_decidesMain_80 ?_
        refine ts_bipush C dX12_decidesMain_83 60 tb_60 ?_
        refine ts_ialdc C (by decide) shG165 tw_60 (by decide) dX12_decidesMain_85 ?_
        refine ts_iast C (by decide) shG165 dX12_decidesMain_86 (fun M6 => ?_)
        refine ts_aload_n C dX12_decidesMain_87 rfl 0 rfl ?_
        refine tgX12_1 C q_1959 dX12_decidesMain_88 ?_
        refine ts_bipush C dX12_decidesMain_91 6 tb_6 ?_
        refine ts_dup2 C dX12_decidesMain_93 rfl rfl ?_
        refine ts_ialdc C (by decide) shG165 tw_6 (by decide) dX12_decidesMain_94 ?_
        refine ts_iconst C dX12_decidesMain_95 1 rfl ?_
        refine ts_iadd C dX12_decidesMain_96 ?_
        refine ts_iastc C (by decide) shG165 tw_6 (by decide) dX12_decidesMain_97 (fun M7 => ?_)
        exact ts_sub [0] rfl (H98 _)
    · refine ts_iload_n C dX12_decidesMain_12 rfl 1 rfl ?_
      refine ts_cm0_eq C rfl 52 dX12_decidesMain_13 rfl ?_ ?_
      · exact ts_sub [0, 1, 2] rfl (H52 k2 hk2 _ _ _)
      · refine ts_aload_n C dX12_decidesMain_16 rfl 0 rfl ?_
        refine ts_iload_n C dX12_decidesMain_17 rfl 2 rfl ?_
        refine ts_callVi C [ts_v y2] (mX12_isFor hl) kX12_isFor q_2177 (by decide) shX12 rfl rfl rfl (Nat.le_of_ble_eq_true rfl) ⟨Nat.le_of_ble_eq_true rfl, Nat.le_of_ble_eq_true rfl⟩ ⟨Nat.le_of_ble_eq_true rfl, Nat.le_of_ble_eq_true rfl⟩ dX12_decidesMain_18 (fun r10 M9 => ?_)
        refine ts_cm0_ne C rfl 27 dX12_decidesMain_21 rfl ?_ ?_
        · refine ts_aload_n C dX12_decidesMain_27 rfl 0 rfl ?_
          refine ts_iload_n C dX12_decidesMain_28 rfl 2 rfl ?_
          refine ts_iconst C dX12_decidesMain_29 2 rfl ?_
          refine ts_aload_n C dX12_decidesMain_30 rfl 0 rfl ?_
          refine ts_iload_n C dX12_decidesMain_31 rfl 2 rfl ?_
          refine ts_iconst C dX12_decidesMain_32 2 rfl ?_
          refine ts_callVi C [ts_v y2, ts_v 2] (mX12_spoon hl) kX12_spoon q_2149 (by decide) shX12 rfl rfl rfl (Nat.le_of_ble_eq_true rfl) ⟨Nat.le_of_ble_eq_true rfl, Nat.le_of_ble_eq_true rfl⟩ ⟨Nat.le_of_ble_eq_true rfl, Nat.le_of_ble_eq_true rfl⟩ dX12_decidesMain_33 (fun r12 M11 => ?_)
          refine ts_iconst C dX12_decidesMain_36 2 rfl ?_
          refine ts_iadd C dX12_decidesMain_37 ?_
          refine ts_callVv C [ts_v y2, ts_v 2, ts_v (r12 + 2)] (mX12_puts hl) kX12_puts q_2057 (by decide) shX12 rfl rfl rfl (Nat.le_of_ble_eq_true rfl) ⟨Nat.le_of_ble_eq_true rfl, Nat.le_of_ble_eq_true rfl⟩ ⟨Nat.le_of_ble_eq_true rfl, Nat.le_of_ble_eq_true rfl⟩ dX12_decidesMain_38 (fun M13 => ?_)
          refine ts_aload_n C dX12_decidesMain_41 rfl 0 rfl ?_
          refine tgX12_1 C q_1959 dX12_decidesMain_42 ?_
          refine ts_bipush C dX12_decidesMain_45 9 tb_9 ?_
          refine ts_dup2 C dX12_decidesMain_47 rfl rfl ?_
          refine ts_ialdc C (by decide) shG165 tw_9 (by decide) dX12_decidesMain_48 ?_
          refine ts_iconst C dX12_decidesMain_49 2 rfl ?_
          refine ts_iadd C dX12_decidesMain_50 ?_
          refine ts_iastc C (by decide) shG165 tw_9 (by decide) dX12_decidesMain_51 (fun M14 => ?_)
          exact ts_sub [0, 1, 2] rfl (H52 k2 hk2 _ _ _)
        · refine ts_goto C 52 dX12_decidesMain_24 rfl ?_
          exact ts_sub [0, 1, 2] rfl (H52 k2 hk2 _ _ _)
  revert h0
  unfold wX12_decidesMain
  have hl0 : lv_args 0 [.ref (ts_ad g 164), ts_v p1] = [(0, .ref (ts_ad g 164)), (1, ts_v p1)] := rfl
  rw [hl0]
  refine ts_iconst C dX12_decidesMain_0 0 rfl ?_
  refine ts_istore_n C dX12_decidesMain_1 rfl (by decide) (lv' := fun x1 => [(2, ts_v x1), (0, .ref (ts_ad g 164)), (1, ts_v p1)]) (fun _ => rfl) (fun x1 => ?_)
  rintro ⟨n, hn⟩
  exact ts_sub [1, 2, 0] rfl (H2 n _ _ _) hn
def wX12_postpones (Q : ts_M → Prop) (M : ts_M) : Prop :=
  (∀ x1 : Int, x1 = M.1 165 60 → (wX12_mainPosition  (fun r3 M2 => (∀ x4 : Int, x4 = r3 → (wX12_place x1 (fun r6 M5 => (wX12_takesOff r6 (fun M7 => (wX12_lists x1 x4 (fun r9 M8 => (wX12_empties  (fun M10 => Q M10) M8)) M7)) M5)) M2))) M))
set_option maxRecDepth 100000 in
set_option maxHeartbeats 4000000 in
theorem mX12_postpones {l : Launch} {g : ts_W} (hl : l.stackTraces = false) {Q : ts_M → Prop} {M : ts_M} : wX12_postpones Q M → ts_Con l g yX12_postpones cX12_postpones 3 none 3 0 0 [.ref (ts_ad g 164)] M (ts_Rv Q) := by
  intro h0
  refine ts_Con.of hl (by decide) (Nat.le_of_ble_eq_true rfl) ?_
  intro p e s m args below meth c C
  revert h0
  unfold wX12_postpones
  have hl0 : lv_args 0 [.ref (ts_ad g 164)] = [(0, .ref (ts_ad g 164))] := rfl
  rw [hl0]
  refine ts_aload_n C dX12_postpones_0 rfl 0 rfl ?_
  refine tgX12_1 C q_1959 dX12_postpones_1 ?_
  refine ts_bipush C dX12_postpones_4 60 tb_60 ?_
  refine ts_ialdc C (by decide) shG165 tw_60 (by decide) dX12_postpones_6 ?_
  refine ts_istore_n C dX12_postpones_7 rfl (by decide) (lv' := fun x1 => [(1, ts_v x1), (0, .ref (ts_ad g 164))]) (fun _ => rfl) (fun x1 => ?_)
  refine ts_aload_n C dX12_postpones_8 rfl 1 rfl ?_
  refine ts_callVi C [] (mX12_mainPosition hl) kX12_mainPosition q_2185 (by decide) shX12 rfl rfl rfl (Nat.le_of_ble_eq_true rfl) ⟨Nat.le_of_ble_eq_true rfl, Nat.le_of_ble_eq_true rfl⟩ ⟨Nat.le_of_ble_eq_true rfl, Nat.le_of_ble_eq_true rfl⟩ dX12_postpones_9 (fun r3 M2 => ?_)
  refine ts_istore_n C dX12_postpones_12 rfl (by decide) (lv' := fun x4 => [(2, ts_v x4), (1, ts_v x1), (0, .ref (ts_ad g 164))]) (fun _ => rfl) (fun x4 => ?_)
  refine ts_aload_n C dX12_postpones_13 rfl 2 rfl ?_
  refine ts_aload_n C dX12_postpones_14 rfl 2 rfl ?_
  refine ts_iload_n C dX12_postpones_15 rfl 1 rfl ?_
  refine ts_callVi C [ts_v x1] (mX12_place hl) kX12_place q_2085 (by decide) shX12 rfl rfl rfl (Nat.le_of_ble_eq_true rfl) ⟨Nat.le_of_ble_eq_true rfl, Nat.le_of_ble_eq_true rfl⟩ ⟨Nat.le_of_ble_eq_true rfl, Nat.le_of_ble_eq_true rfl⟩ dX12_postpones_16 (fun r6 M5 => ?_)
  refine ts_callVv C [ts_v r6] (mX12_takesOff hl) kX12_takesOff q_2208 (by decide) shX12 rfl rfl rfl (Nat.le_of_ble_eq_true rfl) ⟨Nat.le_of_ble_eq_true rfl, Nat.le_of_ble_eq_true rfl⟩ ⟨Nat.le_of_ble_eq_true rfl, Nat.le_of_ble_eq_true rfl⟩ dX12_postpones_19 (fun M7 => ?_)
  refine ts_aload_n C dX12_postpones_22 rfl 2 rfl ?_
  refine ts_iload_n C dX12_postpones_23 rfl 1 rfl ?_
  refine ts_iload_n C dX12_postpones_24 rfl 0 rfl ?_
  refine ts_callVi C [ts_v x1, ts_v x4] (mX12_lists hl) kX12_lists q_2073 (by decide) shX12 rfl rfl rfl (Nat.le_of_ble_eq_true rfl) ⟨Nat.le_of_ble_eq_true rfl, Nat.le_of_ble_eq_true rfl⟩ ⟨Nat.le_of_ble_eq_true rfl, Nat.le_of_ble_eq_true rfl⟩ dX12_postpones_25 (fun r9 M8 => ?_)
  refine ts_pop C dX12_postpones_28 rfl ?_
  refine ts_aload_n C dX12_postpones_29 rfl 2 rfl ?_
  refine ts_callVv C [] (mX12_empties hl) kX12_empties q_2212 (by decide) shX12 rfl rfl rfl (Nat.le_of_ble_eq_true rfl) ⟨Nat.le_of_ble_eq_true rfl, Nat.le_of_ble_eq_true rfl⟩ ⟨Nat.le_of_ble_eq_true rfl, Nat.le_of_ble_eq_true rfl⟩ dX12_postpones_30 (fun M10 => ?_)
  exact ts_vreti C (Nat.zero_le _) (Nat.zero_le _) dX12_postpones_33
def wX12_removesTop_B38   (Q : ts_M → Prop)   (M : ts_M) : Prop :=
  Q M
def wX12_removesTop (Q : ts_M → Prop) (M : ts_M) : Prop :=
  (∀ M1, M1 = ts_si M 165 3 ((M.1 165 3) - 1) → ((0 ≤ ts_w (55 + (M1.1 165 3)) ∧ ts_w (55 + (M1.1 165 3)) < ((146 : Nat) : Int)) ∧ ∀ M2, M2 = ts_si M1 165 (ts_w (55 + (M1.1 165 3))) 0 → ((¬ (ts_w (M2.1 165 3) = 0) → wX12_removesTop_B38 Q M2) ∧ (ts_w (M2.1 165 3) = 0 → (wX12_empties  (fun M3 => wX12_removesTop_B38 Q M3) M2)))))
set_option maxRecDepth 100000 in
set_option maxHeartbeats 4000000 in
theorem mX12_removesTop {l : Launch} {g : ts_W} (hl : l.stackTraces = false) {Q : ts_M → Prop} {M : ts_M} : wX12_removesTop Q M → ts_Con l g yX12_removesTop cX12_removesTop 1 none 2 0 0 [.ref (ts_ad g 164)] M (ts_Rv Q) := by
  intro h0
  refine ts_Con.of hl (by decide) (Nat.le_of_ble_eq_true rfl) ?_
  intro p e s m args below meth c C
  have H38 : ∀  (M : ts_M), wX12_removesTop_B38   Q  M → ts_V p l e (ts_rm 2 0 0) s m args below meth c g 1 0 0 (MQ below (ts_Q g (ts_Rv Q)) args s 0 0 (ts_A g)) 38 [] [] M := by
    intro   M
    unfold wX12_removesTop_B38
    exact ts_vreti C (Nat.zero_le _) (Nat.zero_le _) dX12_removesTop_38
  revert h0
  unfold wX12_removesTop
  have hl0 : lv_args 0 [.ref (ts_ad g 164)] = [(0, .ref (ts_ad g 164))] := rfl
  rw [hl0]
  refine ts_aload_n C dX12_removesTop_0 rfl 0 rfl ?_
  refine tgX12_1 C q_1959 dX12_removesTop_1 ?_
  refine ts_iconst C dX12_removesTop_4 3 rfl ?_
  refine ts_dup2 C dX12_removesTop_5 rfl rfl ?_
  refine ts_ialdc C (by decide) shG165 tw_3 (by decide) dX12_removesTop_6 ?_
  refine ts_iconst C dX12_removesTop_7 1 rfl ?_
  refine ts_isub C dX12_removesTop_8 ?_
  refine ts_iastc C (by decide) shG165 tw_3 (by decide) dX12_removesTop_9 (fun M1 => ?_)
  refine ts_aload_n C dX12_removesTop_10 rfl 0 rfl ?_
  refine tgX12_1 C q_1959 dX12_removesTop_11 ?_
  refine ts_bipush C dX12_removesTop_14 55 tb_55 ?_
  refine ts_aload_n C dX12_removesTop_16 rfl 0 rfl ?_
  refine tgX12_1 C q_1959 dX12_removesTop_17 ?_
  refine ts_iconst C dX12_removesTop_20 3 rfl ?_
  refine ts_ialdc C (by decide) shG165 tw_3 (by decide) dX12_removesTop_21 ?_
  refine ts_iadd C dX12_removesTop_22 ?_
  refine ts_iconst C dX12_removesTop_23 0 rfl ?_
  refine ts_iast C (by decide) shG165 dX12_removesTop_24 (fun M2 => ?_)
  refine ts_aload_n C dX12_removesTop_25 rfl 0 rfl ?_
  refine tgX12_1 C q_1959 dX12_removesTop_26 ?_
  refine ts_iconst C dX12_removesTop_29 3 rfl ?_
  refine ts_ialdc C (by decide) shG165 tw_3 (by decide) dX12_removesTop_30 ?_
  refine ts_cm0_ne C rfl 38 dX12_removesTop_31 rfl ?_ ?_
  · exact ts_sub [] rfl (H38 _)
  · refine ts_aload_n C dX12_removesTop_34 rfl 0 rfl ?_
    refine ts_callVv C [] (mX12_empties hl) kX12_empties q_2212 (by decide) shX12 rfl rfl rfl (Nat.le_of_ble_eq_true rfl) ⟨Nat.le_of_ble_eq_true rfl, Nat.le_of_ble_eq_true rfl⟩ ⟨Nat.le_of_ble_eq_true rfl, Nat.le_of_ble_eq_true rfl⟩ dX12_removesTop_35 (fun M3 => ?_)
    exact ts_sub [] rfl (H38 _)
def wX12_votes_B163   (Q : Int → ts_M → Prop)  (z0 : Int) (M : ts_M) : Prop :=
  Q z0 M
def wX12_votes_B154   (Q : Int → ts_M → Prop)  (y1 : Int) (M : ts_M) : Prop :=
  ((ts_w y1 = 0 → wX12_votes_B163 Q 0 M) ∧ (¬ (ts_w y1 = 0) → wX12_votes_B163 Q 1 M))
def wX12_votes_B141   (Q : Int → ts_M → Prop)  (y1 : Int) (y2 : Int) (M : ts_M) : Prop :=
  ((ts_w y1 = 0 → wX12_votes_B154 Q y1 M) ∧ (¬ (ts_w y1 = 0) → ((¬ (ts_w y2 = 4) → wX12_votes_B154 Q y1 M) ∧ (ts_w y2 = 4 → (wX12_adjourns  (fun M10 => wX12_votes_B154 Q y1 M10) M)))))
def wX12_votes_B125   (Q : Int → ts_M → Prop)  (y1 : Int) (y2 : Int) (M : ts_M) : Prop :=
  ((ts_w y1 = 0 → wX12_votes_B141 Q y1 y2 M) ∧ (¬ (ts_w y1 = 0) → ((¬ (ts_w y2 = 3) → wX12_votes_B141 Q y1 y2 M) ∧ (ts_w y2 = 3 → (∀ M11, M11 = ts_si M 165 4 1 → wX12_votes_B141 Q y1 y2 M11)))))
def wX12_votes_B108   (Q : Int → ts_M → Prop)  (y1 : Int) (y2 : Int) (M : ts_M) : Prop :=
  (wX12_removesTop  (fun M9 => ((ts_w y1 = 0 → wX12_votes_B125 Q y1 y2 M9) ∧ (¬ (ts_w y1 = 0) → ((¬ (ts_w y2 = 2) → wX12_votes_B125 Q y1 y2 M9) ∧ (ts_w y2 = 2 → (wX12_postpones  (fun M12 => wX12_votes_B125 Q y1 y2 M12) M9)))))) M)
def wX12_votes_B95   (Q : Int → ts_M → Prop)  (y1 : Int) (y2 : Int) (M : ts_M) : Prop :=
  ((¬ (ts_w y2 = 1) → wX12_votes_B108 Q y1 y2 M) ∧ (ts_w y2 = 1 → (∀ M13, M13 = ts_si M 165 61 0 → wX12_votes_B108 Q y1 y2 M13)))
def wX12_votes_B58   (Q : Int → ts_M → Prop)  (z0 : Int) (M : ts_M) : Prop :=
  Q z0 M
def wX12_votes_B38   (Q : Int → ts_M → Prop)  (y1 : Int) (y2 : Int) (z0 : Int) (z1 : Int) (z2 : Int) (M : ts_M) : Prop :=
  ((0 ≤ ts_w z2 ∧ ts_w z2 < ((146 : Nat) : Int)) ∧ ∀ M8, M8 = ts_si M 165 (ts_w z2) (z1 + z0) → ((¬ (ts_w y2 = 0) → ((ts_w y1 = 0 → wX12_votes_B95 Q y1 y2 M8) ∧ (¬ (ts_w y1 = 0) → ((¬ (ts_w y2 = 1) → wX12_votes_B95 Q y1 y2 M8) ∧ (ts_w y2 = 1 → (wX12_place (M8.1 165 60) (fun r15 M14 => (wX12_changed  (fun r17 M16 => ((0 ≤ ts_w ((43 + (2 * r15)) + 1) ∧ ts_w ((43 + (2 * r15)) + 1) < ((146 : Nat) : Int)) ∧ ∀ M18, M18 = ts_si M16 165 (ts_w ((43 + (2 * r15)) + 1)) r17 → wX12_votes_B95 Q y1 y2 M18)) M14)) M8)))))) ∧ (ts_w y2 = 0 → (wX12_decidesMain y1 (fun M19 => ((ts_w y1 = 0 → wX12_votes_B58 Q 0 M19) ∧ (¬ (ts_w y1 = 0) → wX12_votes_B58 Q 1 M19))) M8))))
def wX12_votes (Q : Int → ts_M → Prop) (M : ts_M) : Prop :=
  (wX12_isAdopted  (fun r2 M1 => (∀ x3 : Int, x3 = r2 → (wX12_top  (fun r5 M4 => (∀ x6 : Int, x6 = r5 → (∀ M7, M7 = ts_si M4 165 7 ((M4.1 165 7) + 1) → ((ts_w x3 = 0 → wX12_votes_B38 Q x3 x6 0 (M7.1 165 8) 8 M7) ∧ (¬ (ts_w x3 = 0) → wX12_votes_B38 Q x3 x6 1 (M7.1 165 8) 8 M7))))) M1))) M)
set_option maxRecDepth 100000 in
set_option maxHeartbeats 4000000 in
theorem mX12_votes {l : Launch} {g : ts_W} (hl : l.stackTraces = false) {Q : Int → ts_M → Prop} {M : ts_M} : wX12_votes Q M → ts_Con l g yX12_votes cX12_votes 3 (some .int) 7 0 0 [.ref (ts_ad g 164)] M (ts_Ri Q) := by
  intro h0
  refine ts_Con.of hl (by decide) (Nat.le_of_ble_eq_true rfl) ?_
  intro p e s m args below meth c C
  have H163 : ∀ (z0 : Int) (M : ts_M), wX12_votes_B163   Q z0 M → ts_V p l e (ts_rm 7 0 0) s m args below meth c g 3 0 0 (MQ below (ts_Q g (ts_Ri Q)) args s 0 0 (ts_A g)) 163 [] [ts_v z0] M := by
    intro  z0 M
    unfold wX12_votes_B163
    exact ts_ireti C (Nat.zero_le _) (Nat.zero_le _) dX12_votes_163
  have H154 : ∀ (y1 : Int) (M : ts_M), wX12_votes_B154   Q y1 M → ts_V p l e (ts_rm 7 0 0) s m args below meth c g 3 0 0 (MQ below (ts_Q g (ts_Ri Q)) args s 0 0 (ts_A g)) 154 [(1, ts_v y1)] [] M := by
    intro  y1 M
    unfold wX12_votes_B154
    refine ts_iload_n C dX12_votes_154 rfl 0 rfl ?_
    refine ts_cm0_eq C rfl 162 dX12_votes_155 rfl ?_ ?_
    · refine ts_iconst C dX12_votes_162 0 rfl ?_
      exact ts_sub [] rfl (H163 _ _)
    · refine ts_iconst C dX12_votes_158 1 rfl ?_
      refine ts_goto C 163 dX12_votes_159 rfl ?_
      exact ts_sub [] rfl (H163 _ _)
  have H141 : ∀ (y1 : Int) (y2 : Int) (M : ts_M), wX12_votes_B141   Q y1 y2 M → ts_V p l e (ts_rm 7 0 0) s m args below meth c g 3 0 0 (MQ below (ts_Q g (ts_Ri Q)) args s 0 0 (ts_A g)) 141 [(0, .ref (ts_ad g 164)), (1, ts_v y1), (2, ts_v y2)] [] M := by
    intro  y1 y2 M
    unfold wX12_votes_B141
    refine ts_iload_n C dX12_votes_141 rfl 1 rfl ?_
    refine ts_cm0_eq C rfl 154 dX12_votes_142 rfl ?_ ?_
    · exact ts_sub [1] rfl (H154 _ _)
    · refine ts_iload_n C dX12_votes_145 rfl 2 rfl ?_
      refine ts_iconst C dX12_votes_146 4 rfl ?_
      refine ts_cmp_ne C rfl tw_4 154 dX12_votes_147 rfl ?_ ?_
      · exact ts_sub [1] rfl (H154 _ _)
      · refine ts_aload_n C dX12_votes_150 rfl 0 rfl ?_
        refine ts_callVv C [] (mX12_adjourns hl) kX12_adjourns q_2224 (by decide) shX12 rfl rfl rfl (Nat.le_of_ble_eq_true rfl) ⟨Nat.le_of_ble_eq_true rfl, Nat.le_of_ble_eq_true rfl⟩ ⟨Nat.le_of_ble_eq_true rfl, Nat.le_of_ble_eq_true rfl⟩ dX12_votes_151 (fun M10 => ?_)
        exact ts_sub [1] rfl (H154 _ _)
  have H125 : ∀ (y1 : Int) (y2 : Int) (M : ts_M), wX12_votes_B125   Q y1 y2 M → ts_V p l e (ts_rm 7 0 0) s m args below meth c g 3 0 0 (MQ below (ts_Q g (ts_Ri Q)) args s 0 0 (ts_A g)) 125 [(0, .ref (ts_ad g 164)), (1, ts_v y1), (2, ts_v y2)] [] M := by
    intro  y1 y2 M
    unfold wX12_votes_B125
    refine ts_iload_n C dX12_votes_125 rfl 1 rfl ?_
    refine ts_cm0_eq C rfl 141 dX12_votes_126 rfl ?_ ?_
    · exact ts_sub [0, 1, 2] rfl (H141 _ _ _)
    · refine ts_iload_n C dX12_votes_129 rfl 2 rfl ?_
      refine ts_iconst C dX12_votes_130 3 rfl ?_
      refine ts_cmp_ne C rfl tw_3 141 dX12_votes_131 rfl ?_ ?_
      · exact ts_sub [0, 1, 2] rfl (H141 _ _ _)
      · refine ts_aload_n C dX12_votes_134 rfl 0 rfl ?_
        refine tgX12_1 C q_1959 dX12_votes_135 ?_
        refine ts_iconst C dX12_votes_138 4 rfl ?_
        refine ts_iconst C dX12_votes_139 1 rfl ?_
        refine ts_iastc C (by decide) shG165 tw_4 (by decide) dX12_votes_140 (fun M11 => ?_)
        exact ts_sub [0, 1, 2] rfl (H141 _ _ _)
  have H108 : ∀ (y1 : Int) (y2 : Int) (M : ts_M), wX12_votes_B108   Q y1 y2 M → ts_V p l e (ts_rm 7 0 0) s m args below meth c g 3 0 0 (MQ below (ts_Q g (ts_Ri Q)) args s 0 0 (ts_A g)) 108 [(0, .ref (ts_ad g 164)), (1, ts_v y1), (2, ts_v y2)] [] M := by
    intro  y1 y2 M
    unfold wX12_votes_B108
    refine ts_aload_n C dX12_votes_108 rfl 0 rfl ?_
    refine ts_callVv C [] (mX12_removesTop hl) kX12_removesTop q_2216 (by decide) shX12 rfl rfl rfl (Nat.le_of_ble_eq_true rfl) ⟨Nat.le_of_ble_eq_true rfl, Nat.le_of_ble_eq_true rfl⟩ ⟨Nat.le_of_ble_eq_true rfl, Nat.le_of_ble_eq_true rfl⟩ dX12_votes_109 (fun M9 => ?_)
    refine ts_iload_n C dX12_votes_112 rfl 1 rfl ?_
    refine ts_cm0_eq C rfl 125 dX12_votes_113 rfl ?_ ?_
    · exact ts_sub [0, 1, 2] rfl (H125 _ _ _)
    · refine ts_iload_n C dX12_votes_116 rfl 2 rfl ?_
      refine ts_iconst C dX12_votes_117 2 rfl ?_
      refine ts_cmp_ne C rfl tw_2 125 dX12_votes_118 rfl ?_ ?_
      · exact ts_sub [0, 1, 2] rfl (H125 _ _ _)
      · refine ts_aload_n C dX12_votes_121 rfl 0 rfl ?_
        refine ts_callVv C [] (mX12_postpones hl) kX12_postpones q_2220 (by decide) shX12 rfl rfl rfl (Nat.le_of_ble_eq_true rfl) ⟨Nat.le_of_ble_eq_true rfl, Nat.le_of_ble_eq_true rfl⟩ ⟨Nat.le_of_ble_eq_true rfl, Nat.le_of_ble_eq_true rfl⟩ dX12_votes_122 (fun M12 => ?_)
        exact ts_sub [0, 1, 2] rfl (H125 _ _ _)
  have H95 : ∀ (y1 : Int) (y2 : Int) (M : ts_M), wX12_votes_B95   Q y1 y2 M → ts_V p l e (ts_rm 7 0 0) s m args below meth c g 3 0 0 (MQ below (ts_Q g (ts_Ri Q)) args s 0 0 (ts_A g)) 95 [(0, .ref (ts_ad g 164)), (1, ts_v y1), (2, ts_v y2)] [] M := by
    intro  y1 y2 M
    unfold wX12_votes_B95
    refine ts_iload_n C dX12_votes_95 rfl 2 rfl ?_
    refine ts_iconst C dX12_votes_96 1 rfl ?_
    refine ts_cmp_ne C rfl tw_1 108 dX12_votes_97 rfl ?_ ?_
    · exact ts_sub [0, 1, 2] rfl (H108 _ _ _)
    · refine ts_aload_n C dX12_votes_100 rfl 0 rfl ?_
      refine tgX12_1 C q_1959 dX12_votes_101 ?_
      refine ts_bipush C dX12_votes_104 61 tb_61 ?_
      refine ts_iconst C dX12_votes_106 0 rfl ?_
      refine ts_iastc C (by decide) shG165 tw_61 (by decide) dX12_votes_107 (fun M13 => ?_)
      exact ts_sub [0, 1, 2] rfl (H108 _ _ _)
  have H58 : ∀ (z0 : Int) (M : ts_M), wX12_votes_B58   Q z0 M → ts_V p l e (ts_rm 7 0 0) s m args below meth c g 3 0 0 (MQ below (ts_Q g (ts_Ri Q)) args s 0 0 (ts_A g)) 58 [] [ts_v z0] M := by
    intro  z0 M
    unfold wX12_votes_B58
    exact ts_ireti C (Nat.zero_le _) (Nat.zero_le _) dX12_votes_58
  have H38 : ∀ (y1 : Int) (y2 : Int) (z0 : Int) (z1 : Int) (z2 : Int) (M : ts_M), wX12_votes_B38   Q y1 y2 z0 z1 z2 M → ts_V p l e (ts_rm 7 0 0) s m args below meth c g 3 0 0 (MQ below (ts_Q g (ts_Ri Q)) args s 0 0 (ts_A g)) 38 [(0, .ref (ts_ad g 164)), (1, ts_v y1), (2, ts_v y2)] [ts_v z0, ts_v z1, ts_v z2, .ref (ts_ad g 165)] M := by
    intro  y1 y2 z0 z1 z2 M
    unfold wX12_votes_B38
    refine ts_iadd C dX12_votes_38 ?_
    refine ts_iast C (by decide) shG165 dX12_votes_39 (fun M8 => ?_)
    refine ts_iload_n C dX12_votes_40 rfl 2 rfl ?_
    refine ts_cm0_ne C rfl 59 dX12_votes_41 rfl ?_ ?_
    · refine ts_iload_n C dX12_votes_59 rfl 1 rfl ?_
      refine ts_cm0_eq C rfl 95 dX12_votes_60 rfl ?_ ?_
      · exact ts_sub [0, 1, 2] rfl (H95 _ _ _)
      · refine ts_iload_n C dX12_votes_63 rfl 2 rfl ?_
        refine ts_iconst C dX12_votes_64 1 rfl ?_
        refine ts_cmp_ne C rfl tw_1 95 dX12_votes_65 rfl ?_ ?_
        · exact ts_sub [0, 1, 2] rfl (H95 _ _ _)
        · refine ts_aload_n C dX12_votes_68 rfl 0 rfl ?_
          refine tgX12_1 C q_1959 dX12_votes_69 ?_
          refine ts_bipush C dX12_votes_72 43 tb_43 ?_
          refine ts_iconst C dX12_votes_74 2 rfl ?_
          refine ts_aload_n C dX12_votes_75 rfl 0 rfl ?_
          refine ts_aload_n C dX12_votes_76 rfl 0 rfl ?_
          refine tgX12_1 C q_1959 dX12_votes_77 ?_
          refine ts_bipush C dX12_votes_80 60 tb_60 ?_
          refine ts_ialdc C (by decide) shG165 tw_60 (by decide) dX12_votes_82 ?_
          refine ts_callVi C [ts_v (M8.1 165 60)] (mX12_place hl) kX12_place q_2085 (by decide) shX12 rfl rfl rfl (Nat.le_of_ble_eq_true rfl) ⟨Nat.le_of_ble_eq_true rfl, Nat.le_of_ble_eq_true rfl⟩ ⟨Nat.le_of_ble_eq_true rfl, Nat.le_of_ble_eq_true rfl⟩ dX12_votes_83 (fun r15 M14 => ?_)
          refine ts_imul C dX12_votes_86 ?_
          refine ts_iadd C dX12_votes_87 ?_
          refine ts_iconst C dX12_votes_88 1 rfl ?_
          refine ts_iadd C dX12_votes_89 ?_
          refine ts_aload_n C dX12_votes_90 rfl 0 rfl ?_
          refine ts_callVi C [] (mX12_changed hl) kX12_changed q_2196 (by decide) shX12 rfl rfl rfl (Nat.le_of_ble_eq_true rfl) ⟨Nat.le_of_ble_eq_true rfl, Nat.le_of_ble_eq_true rfl⟩ ⟨Nat.le_of_ble_eq_true rfl, Nat.le_of_ble_eq_true rfl⟩ dX12_votes_91 (fun r17 M16 => ?_)
          refine ts_iast C (by decide) shG165 dX12_votes_94 (fun M18 => ?_)
          exact ts_sub [0, 1, 2] rfl (H95 _ _ _)
    · refine ts_aload_n C dX12_votes_44 rfl 0 rfl ?_
      refine ts_iload_n C dX12_votes_45 rfl 1 rfl ?_
      refine ts_callVv C [ts_v y1] (mX12_decidesMain hl) kX12_decidesMain q_2204 (by decide) shX12 rfl rfl rfl (Nat.le_of_ble_eq_true rfl) ⟨Nat.le_of_ble_eq_true rfl, Nat.le_of_ble_eq_true rfl⟩ ⟨Nat.le_of_ble_eq_true rfl, Nat.le_of_ble_eq_true rfl⟩ dX12_votes_46 (fun M19 => ?_)
      refine ts_iload_n C dX12_votes_49 rfl 1 rfl ?_
      refine ts_cm0_eq C rfl 57 dX12_votes_50 rfl ?_ ?_
      · refine ts_iconst C dX12_votes_57 0 rfl ?_
        exact ts_sub [] rfl (H58 _ _)
      · refine ts_iconst C dX12_votes_53 1 rfl ?_
        refine ts_goto C 58 dX12_votes_54 rfl ?_
        exact ts_sub [] rfl (H58 _ _)
  revert h0
  unfold wX12_votes
  have hl0 : lv_args 0 [.ref (ts_ad g 164)] = [(0, .ref (ts_ad g 164))] := rfl
  rw [hl0]
  refine ts_aload_n C dX12_votes_0 rfl 0 rfl ?_
  refine ts_callVi C [] (mX12_isAdopted hl) kX12_isAdopted q_2169 (by decide) shX12 rfl rfl rfl (Nat.le_of_ble_eq_true rfl) ⟨Nat.le_of_ble_eq_true rfl, Nat.le_of_ble_eq_true rfl⟩ ⟨Nat.le_of_ble_eq_true rfl, Nat.le_of_ble_eq_true rfl⟩ dX12_votes_1 (fun r2 M1 => ?_)
  refine ts_istore_n C dX12_votes_4 rfl (by decide) (lv' := fun x3 => [(1, ts_v x3), (0, .ref (ts_ad g 164))]) (fun _ => rfl) (fun x3 => ?_)
  refine ts_aload_n C dX12_votes_5 rfl 1 rfl ?_
  refine ts_callVi C [] (mX12_top hl) kX12_top q_2097 (by decide) shX12 rfl rfl rfl (Nat.le_of_ble_eq_true rfl) ⟨Nat.le_of_ble_eq_true rfl, Nat.le_of_ble_eq_true rfl⟩ ⟨Nat.le_of_ble_eq_true rfl, Nat.le_of_ble_eq_true rfl⟩ dX12_votes_6 (fun r5 M4 => ?_)
  refine ts_istore_n C dX12_votes_9 rfl (by decide) (lv' := fun x6 => [(2, ts_v x6), (1, ts_v x3), (0, .ref (ts_ad g 164))]) (fun _ => rfl) (fun x6 => ?_)
  refine ts_aload_n C dX12_votes_10 rfl 2 rfl ?_
  refine tgX12_1 C q_1959 dX12_votes_11 ?_
  refine ts_bipush C dX12_votes_14 7 tb_7 ?_
  refine ts_dup2 C dX12_votes_16 rfl rfl ?_
  refine ts_ialdc C (by decide) shG165 tw_7 (by decide) dX12_votes_17 ?_
  refine ts_iconst C dX12_votes_18 1 rfl ?_
  refine ts_iadd C dX12_votes_19 ?_
  refine ts_iastc C (by decide) shG165 tw_7 (by decide) dX12_votes_20 (fun M7 => ?_)
  refine ts_aload_n C dX12_votes_21 rfl 2 rfl ?_
  refine tgX12_1 C q_1959 dX12_votes_22 ?_
  refine ts_bipush C dX12_votes_25 8 tb_8 ?_
  refine ts_dup2 C dX12_votes_27 rfl rfl ?_
  refine ts_ialdc C (by decide) shG165 tw_8 (by decide) dX12_votes_28 ?_
  refine ts_iload_n C dX12_votes_29 rfl 1 rfl ?_
  refine ts_cm0_eq C rfl 37 dX12_votes_30 rfl ?_ ?_
  · refine ts_iconst C dX12_votes_37 0 rfl ?_
    exact ts_sub [2, 1, 0] rfl (H38 _ _ _ _ _ _)
  · refine ts_iconst C dX12_votes_33 1 rfl ?_
    refine ts_goto C 38 dX12_votes_34 rfl ?_
    exact ts_sub [2, 1, 0] rfl (H38 _ _ _ _ _ _)
def wX12_notVote_B14   (Q : Int → ts_M → Prop)  (z0 : Int) (M : ts_M) : Prop :=
  Q z0 M
def wX12_notVote (Q : Int → ts_M → Prop) (M : ts_M) : Prop :=
  ((¬ (ts_w (M.1 165 3) = 0) → wX12_notVote_B14 Q 0 M) ∧ (ts_w (M.1 165 3) = 0 → wX12_notVote_B14 Q 1 M))
set_option maxRecDepth 100000 in
set_option maxHeartbeats 4000000 in
theorem mX12_notVote {l : Launch} {g : ts_W} (hl : l.stackTraces = false) {Q : Int → ts_M → Prop} {M : ts_M} : wX12_notVote Q M → ts_Con l g yX12_notVote cX12_notVote 1 (some .int) 0 0 0 [.ref (ts_ad g 164)] M (ts_Ri Q) := by
  intro h0
  refine ts_Con.of hl (by decide) (Nat.le_of_ble_eq_true rfl) ?_
  intro p e s m args below meth c C
  have H14 : ∀ (z0 : Int) (M : ts_M), wX12_notVote_B14   Q z0 M → ts_V p l e (ts_rm 0 0 0) s m args below meth c g 1 0 0 (MQ below (ts_Q g (ts_Ri Q)) args s 0 0 (ts_A g)) 14 [] [ts_v z0] M := by
    intro  z0 M
    unfold wX12_notVote_B14
    exact ts_ireti C (Nat.zero_le _) (Nat.zero_le _) dX12_notVote_14
  revert h0
  unfold wX12_notVote
  have hl0 : lv_args 0 [.ref (ts_ad g 164)] = [(0, .ref (ts_ad g 164))] := rfl
  rw [hl0]
  refine ts_aload_n C dX12_notVote_0 rfl 0 rfl ?_
  refine tgX12_1 C q_1959 dX12_notVote_1 ?_
  refine ts_iconst C dX12_notVote_4 3 rfl ?_
  refine ts_ialdc C (by decide) shG165 tw_3 (by decide) dX12_notVote_5 ?_
  refine ts_cm0_ne C rfl 13 dX12_notVote_6 rfl ?_ ?_
  · refine ts_iconst C dX12_notVote_13 0 rfl ?_
    exact ts_sub [] rfl (H14 _ _)
  · refine ts_iconst C dX12_notVote_9 1 rfl ?_
    refine ts_goto C 14 dX12_notVote_10 rfl ?_
    exact ts_sub [] rfl (H14 _ _)
def wX12_vote_B43   (Q : Int → ts_M → Prop)  (z0 : Int) (M : ts_M) : Prop :=
  ((ts_w z0 = 0 ∨ ts_w z0 = 1) ∧ Q z0 M)
def wX12_vote_B25   (Q : Int → ts_M → Prop)  (z0 : Int) (M : ts_M) : Prop :=
  ((ts_w z0 = 0 ∨ ts_w z0 = 1) ∧ Q z0 M)
def wX12_vote (Q : Int → ts_M → Prop) (M : ts_M) : Prop :=
  (∀ M1, M1 = ts_si M 164 0 0 → (wX12_notVote  (fun r3 M2 => ((ts_w r3 = 0 → (wX12_remembers  (fun M4 => (wX12_votes  (fun r6 M5 => ((¬ (ts_w r6 = 1) → wX12_vote_B43 Q 0 M5) ∧ (ts_w r6 = 1 → wX12_vote_B43 Q 1 M5))) M4)) M2)) ∧ (¬ (ts_w r3 = 0) → (wX12_fails 1 (fun r8 M7 => ((ts_w r8 ≤ 0 → wX12_vote_B25 Q 0 M7) ∧ (¬ (ts_w r8 ≤ 0) → wX12_vote_B25 Q 1 M7))) M2)))) M1))
set_option maxRecDepth 100000 in
set_option maxHeartbeats 4000000 in
theorem mX12_vote {l : Launch} {g : ts_W} (hl : l.stackTraces = false) {Q : Int → ts_M → Prop} {M : ts_M} : wX12_vote Q M → ts_Con l g yX12_vote cX12_vote 1 (some .boolean) 8 0 0 [.ref (ts_ad g 164)] M (ts_Ri Q) := by
  intro h0
  refine ts_Con.of hl (by decide) (Nat.le_of_ble_eq_true rfl) ?_
  intro p e s m args below meth c C
  have H43 : ∀ (z0 : Int) (M : ts_M), wX12_vote_B43   Q z0 M → ts_V p l e (ts_rm 8 0 0) s m args below meth c g 1 0 0 (MQ below (ts_Q g (ts_Ri Q)) args s 0 0 (ts_A g)) 43 [] [ts_v z0] M := by
    intro  z0 M
    unfold wX12_vote_B43
    exact ts_zreti C (Nat.zero_le _) (Nat.zero_le _) dX12_vote_43
  have H25 : ∀ (z0 : Int) (M : ts_M), wX12_vote_B25   Q z0 M → ts_V p l e (ts_rm 8 0 0) s m args below meth c g 1 0 0 (MQ below (ts_Q g (ts_Ri Q)) args s 0 0 (ts_A g)) 25 [] [ts_v z0] M := by
    intro  z0 M
    unfold wX12_vote_B25
    exact ts_zreti C (Nat.zero_le _) (Nat.zero_le _) dX12_vote_25
  revert h0
  unfold wX12_vote
  have hl0 : lv_args 0 [.ref (ts_ad g 164)] = [(0, .ref (ts_ad g 164))] := rfl
  rw [hl0]
  refine ts_aload_n C dX12_vote_0 rfl 0 rfl ?_
  refine ts_iconst C dX12_vote_1 0 rfl ?_
  refine tpX12_0 C q_1958 dX12_vote_2 (fun M1 => ?_)
  refine ts_aload_n C dX12_vote_5 rfl 0 rfl ?_
  refine ts_callVi C [] (mX12_notVote hl) kX12_notVote q_2161 (by decide) shX12 rfl rfl rfl (Nat.le_of_ble_eq_true rfl) ⟨Nat.le_of_ble_eq_true rfl, Nat.le_of_ble_eq_true rfl⟩ ⟨Nat.le_of_ble_eq_true rfl, Nat.le_of_ble_eq_true rfl⟩ dX12_vote_6 (fun r3 M2 => ?_)
  refine ts_cm0_eq C rfl 26 dX12_vote_9 rfl ?_ ?_
  · refine ts_aload_n C dX12_vote_26 rfl 0 rfl ?_
    refine ts_callVv C [] (mX12_remembers hl) kX12_remembers q_2041 (by decide) shX12 rfl rfl rfl (Nat.le_of_ble_eq_true rfl) ⟨Nat.le_of_ble_eq_true rfl, Nat.le_of_ble_eq_true rfl⟩ ⟨Nat.le_of_ble_eq_true rfl, Nat.le_of_ble_eq_true rfl⟩ dX12_vote_27 (fun M4 => ?_)
    refine ts_aload_n C dX12_vote_30 rfl 0 rfl ?_
    refine ts_callVi C [] (mX12_votes hl) kX12_votes q_2165 (by decide) shX12 rfl rfl rfl (Nat.le_of_ble_eq_true rfl) ⟨Nat.le_of_ble_eq_true rfl, Nat.le_of_ble_eq_true rfl⟩ ⟨Nat.le_of_ble_eq_true rfl, Nat.le_of_ble_eq_true rfl⟩ dX12_vote_31 (fun r6 M5 => ?_)
    refine ts_iconst C dX12_vote_34 1 rfl ?_
    refine ts_cmp_ne C rfl tw_1 42 dX12_vote_35 rfl ?_ ?_
    · refine ts_iconst C dX12_vote_42 0 rfl ?_
      exact ts_sub [] rfl (H43 _ _)
    · refine ts_iconst C dX12_vote_38 1 rfl ?_
      refine ts_goto C 43 dX12_vote_39 rfl ?_
      exact ts_sub [] rfl (H43 _ _)
  · refine ts_aload_n C dX12_vote_12 rfl 0 rfl ?_
    refine ts_iconst C dX12_vote_13 1 rfl ?_
    refine ts_callVi C [ts_v 1] (mX12_fails hl) kX12_fails q_2037 (by decide) shX12 rfl rfl rfl (Nat.le_of_ble_eq_true rfl) ⟨Nat.le_of_ble_eq_true rfl, Nat.le_of_ble_eq_true rfl⟩ ⟨Nat.le_of_ble_eq_true rfl, Nat.le_of_ble_eq_true rfl⟩ dX12_vote_14 (fun r8 M7 => ?_)
    refine ts_cm0_le C rfl 24 dX12_vote_17 rfl ?_ ?_
    · refine ts_iconst C dX12_vote_24 0 rfl ?_
      exact ts_sub [] rfl (H25 _ _)
    · refine ts_iconst C dX12_vote_20 1 rfl ?_
      refine ts_goto C 25 dX12_vote_21 rfl ?_
      exact ts_sub [] rfl (H25 _ _)
def wX12_isCell_B25   (Q : Int → ts_M → Prop)  (z0 : Int) (M : ts_M) : Prop :=
  ((ts_w z0 = 0 ∨ ts_w z0 = 1) ∧ Q z0 M)
def wX12_isCell_B24   (Q : Int → ts_M → Prop)   (M : ts_M) : Prop :=
  wX12_isCell_B25 Q 0 M
def wX12_isCell (p1 : Int) (p2 : Int) (Q : Int → ts_M → Prop) (M : ts_M) : Prop :=
  (wX12_isBetween p1 0 7 (fun r2 M1 => ((ts_w r2 = 0 → wX12_isCell_B24 Q M1) ∧ (¬ (ts_w r2 = 0) → (wX12_isBetween p2 0 7 (fun r4 M3 => ((ts_w r4 = 0 → wX12_isCell_B24 Q M3) ∧ (¬ (ts_w r4 = 0) → wX12_isCell_B25 Q 1 M3))) M1)))) M)
set_option maxRecDepth 100000 in
set_option maxHeartbeats 4000000 in
theorem mX12_isCell {l : Launch} {g : ts_W} (hl : l.stackTraces = false) {p1 : Int} {p2 : Int} {Q : Int → ts_M → Prop} {M : ts_M} : wX12_isCell p1 p2 Q M → ts_Con l g yX12_isCell cX12_isCell 2 (some .boolean) 1 0 0 [ts_v p1, ts_v p2] M (ts_Ri Q) := by
  intro h0
  refine ts_Con.of hl (by decide) (Nat.le_of_ble_eq_true rfl) ?_
  intro p e s m args below meth c C
  have H25 : ∀ (z0 : Int) (M : ts_M), wX12_isCell_B25   Q z0 M → ts_V p l e (ts_rm 1 0 0) s m args below meth c g 2 0 0 (MQ below (ts_Q g (ts_Ri Q)) args s 0 0 (ts_A g)) 25 [] [ts_v z0] M := by
    intro  z0 M
    unfold wX12_isCell_B25
    exact ts_zreti C (Nat.zero_le _) (Nat.zero_le _) dX12_isCell_25
  have H24 : ∀  (M : ts_M), wX12_isCell_B24   Q  M → ts_V p l e (ts_rm 1 0 0) s m args below meth c g 2 0 0 (MQ below (ts_Q g (ts_Ri Q)) args s 0 0 (ts_A g)) 24 [] [] M := by
    intro   M
    unfold wX12_isCell_B24
    refine ts_iconst C dX12_isCell_24 0 rfl ?_
    exact ts_sub [] rfl (H25 _ _)
  revert h0
  unfold wX12_isCell
  have hl0 : lv_args 0 [ts_v p1, ts_v p2] = [(0, ts_v p1), (1, ts_v p2)] := rfl
  rw [hl0]
  refine ts_iload_n C dX12_isCell_0 rfl 0 rfl ?_
  refine ts_iconst C dX12_isCell_1 0 rfl ?_
  refine ts_bipush C dX12_isCell_2 7 tb_7 ?_
  refine ts_callSi C [ts_v p1, ts_v 0, ts_v 7] (mX12_isBetween hl) kX12_isBetween q_2034 rfl rfl (Nat.le_of_ble_eq_true rfl) ⟨Nat.le_of_ble_eq_true rfl, Nat.le_of_ble_eq_true rfl⟩ ⟨Nat.le_of_ble_eq_true rfl, Nat.le_of_ble_eq_true rfl⟩ dX12_isCell_4 (fun r2 M1 => ?_)
  refine ts_cm0_eq C rfl 24 dX12_isCell_7 rfl ?_ ?_
  · exact ts_sub [] rfl (H24 _)
  · refine ts_iload_n C dX12_isCell_10 rfl 1 rfl ?_
    refine ts_iconst C dX12_isCell_11 0 rfl ?_
    refine ts_bipush C dX12_isCell_12 7 tb_7 ?_
    refine ts_callSi C [ts_v p2, ts_v 0, ts_v 7] (mX12_isBetween hl) kX12_isBetween q_2034 rfl rfl (Nat.le_of_ble_eq_true rfl) ⟨Nat.le_of_ble_eq_true rfl, Nat.le_of_ble_eq_true rfl⟩ ⟨Nat.le_of_ble_eq_true rfl, Nat.le_of_ble_eq_true rfl⟩ dX12_isCell_14 (fun r4 M3 => ?_)
    refine ts_cm0_eq C rfl 24 dX12_isCell_17 rfl ?_ ?_
    · exact ts_sub [] rfl (H24 _)
    · refine ts_iconst C dX12_isCell_20 1 rfl ?_
      refine ts_goto C 25 dX12_isCell_21 rfl ?_
      exact ts_sub [] rfl (H25 _ _)
def wX12_wets_L4   (Q : Int → ts_M → Prop) (k4 : Int → Int → ts_M → Prop) (y1 : Int) (y2 : Int) (M : ts_M) : Prop :=
  ((64 ≤ ts_w y2 → Q y1 M) ∧ (¬ (64 ≤ ts_w y2) → ((0 ≤ ts_w (82 + y2) ∧ ts_w (82 + y2) < ((146 : Nat) : Int)) ∧ (∀ x3 : Int, x3 = y1 + (M.1 165 (ts_w (82 + y2))) → (∀ x4 : Int, x4 = y2 + 1 → k4 x3 x4 M)))))
def wX12_wets (Q : Int → ts_M → Prop) (M : ts_M) : Prop :=
  (∀ x1 : Int, x1 = 0 → (∀ x2 : Int, x2 = 0 → ∃ n, ts_lp2 (wX12_wets_L4 Q) n x1 x2 M))
set_option maxRecDepth 100000 in
set_option maxHeartbeats 4000000 in
theorem mX12_wets {l : Launch} {g : ts_W} (hl : l.stackTraces = false) {Q : Int → ts_M → Prop} {M : ts_M} : wX12_wets Q M → ts_Con l g yX12_wets cX12_wets 3 (some .int) 0 0 0 [.ref (ts_ad g 164)] M (ts_Ri Q) := by
  intro h0
  refine ts_Con.of hl (by decide) (Nat.le_of_ble_eq_true rfl) ?_
  intro p e s m args below meth c C
  have H4 : ∀ (n : Nat) (y1 : Int) (y2 : Int) (M : ts_M), ts_lp2 (wX12_wets_L4   Q) n y1 y2 M → ts_V p l e (ts_rm 0 0 0) s m args below meth c g 3 0 0 (MQ below (ts_Q g (ts_Ri Q)) args s 0 0 (ts_A g)) 4 [(0, .ref (ts_ad g 164)), (1, ts_v y1), (2, ts_v y2)] [] M := by
    refine ts_lpr2 (V := fun (y1 : Int) (y2 : Int) (M : ts_M) => ts_V p l e (ts_rm 0 0 0) s m args below meth c g 3 0 0 (MQ below (ts_Q g (ts_Ri Q)) args s 0 0 (ts_A g)) 4 [(0, .ref (ts_ad g 164)), (1, ts_v y1), (2, ts_v y2)] [] M) ?_
    intro k4 hk4 y1 y2 M
    unfold wX12_wets_L4
    refine ts_iload_n C dX12_wets_4 rfl 2 rfl ?_
    refine ts_bipush C dX12_wets_5 64 tb_64 ?_
    refine ts_cmp_ge C rfl tw_64 28 dX12_wets_7 rfl ?_ ?_
    · refine ts_iload_n C dX12_wets_28 rfl 1 rfl ?_
      exact ts_ireti C (Nat.zero_le _) (Nat.zero_le _) dX12_wets_29
    · refine ts_iload_n C dX12_wets_10 rfl 1 rfl ?_
      refine ts_aload_n C dX12_wets_11 rfl 0 rfl ?_
      refine tgX12_1 C q_1959 dX12_wets_12 ?_
      refine ts_bipush C dX12_wets_15 82 tb_82 ?_
      refine ts_iload_n C dX12_wets_17 rfl 2 rfl ?_
      refine ts_iadd C dX12_wets_18 ?_
      refine ts_iald C (by decide) shG165 dX12_wets_19 ?_
      refine ts_iadd C dX12_wets_20 ?_
      refine ts_istore_n C dX12_wets_21 rfl (by decide) (lv' := fun x3 => [(1, ts_v x3), (0, .ref (ts_ad g 164)), (2, ts_v y2)]) (fun _ => rfl) (fun x3 => ?_)
      refine ts_iinc C dX12_wets_22 2 rfl (by decide) (lv' := fun x4 => [(2, ts_v x4), (1, ts_v x3), (0, .ref (ts_ad g 164))]) (fun _ => rfl) (fun x4 => ?_)
      refine ts_goto C 4 dX12_wets_25 rfl ?_
      exact ts_sub [2, 1, 0] rfl (hk4 _ _ _)
  revert h0
  unfold wX12_wets
  have hl0 : lv_args 0 [.ref (ts_ad g 164)] = [(0, .ref (ts_ad g 164))] := rfl
  rw [hl0]
  refine ts_iconst C dX12_wets_0 0 rfl ?_
  refine ts_istore_n C dX12_wets_1 rfl (by decide) (lv' := fun x1 => [(1, ts_v x1), (0, .ref (ts_ad g 164))]) (fun _ => rfl) (fun x1 => ?_)
  refine ts_iconst C dX12_wets_2 0 rfl ?_
  refine ts_istore_n C dX12_wets_3 rfl (by decide) (lv' := fun x2 => [(2, ts_v x2), (1, ts_v x1), (0, .ref (ts_ad g 164))]) (fun _ => rfl) (fun x2 => ?_)
  rintro ⟨n, hn⟩
  exact ts_sub [2, 1, 0] rfl (H4 n _ _ _) hn
def wX12_wetsNext_B88   (Q : ts_M → Prop)   (M : ts_M) : Prop :=
  Q M
def wX12_wetsNext_B68  (k9 : Int → Int → Int → Int → Int → ts_M → Prop) (Q : ts_M → Prop)  (y1 : Int) (y2 : Int) (y3 : Int) (y4 : Int) (y5 : Int) (M : ts_M) : Prop :=
  (∀ x10 : Int, x10 = y5 + 1 → k9 y1 y2 y3 y4 x10 M)
def wX12_wetsNext_L9   (Q : ts_M → Prop) (k9 : Int → Int → Int → Int → Int → ts_M → Prop) (y1 : Int) (y2 : Int) (y3 : Int) (y4 : Int) (y5 : Int) (M : ts_M) : Prop :=
  ((64 ≤ ts_w y5 → ((ts_w y3 < 0 → wX12_wetsNext_B88 Q M) ∧ (¬ (ts_w y3 < 0) → ((0 ≤ ts_w (82 + y3) ∧ ts_w (82 + y3) < ((146 : Nat) : Int)) ∧ ∀ M4, M4 = ts_si M 165 (ts_w (82 + y3)) 1 → wX12_wetsNext_B88 Q M4)))) ∧ (¬ (64 ≤ ts_w y5) → (wX12_difference (ts_div y5 8) y1 (fun r6 M5 => (wX12_difference (ts_rem y5 8) y2 (fun r8 M7 => (∀ x9 : Int, x9 = r6 + r8 → ((0 ≤ ts_w (82 + y5) ∧ ts_w (82 + y5) < ((146 : Nat) : Int)) ∧ ((ts_w (M7.1 165 (ts_w (82 + y5))) = 1 → wX12_wetsNext_B68 k9 Q y1 y2 y3 y4 y5 M7) ∧ (¬ (ts_w (M7.1 165 (ts_w (82 + y5))) = 1) → ((ts_w x9 < ts_w y4 → (∀ x11 : Int, x11 = x9 → (∀ x12 : Int, x12 = y5 → wX12_wetsNext_B68 k9 Q y1 y2 x12 x11 y5 M7))) ∧ (¬ (ts_w x9 < ts_w y4) → wX12_wetsNext_B68 k9 Q y1 y2 y3 y4 y5 M7))))))) M5)) M)))
def wX12_wetsNext (p1 : Int) (p2 : Int) (Q : ts_M → Prop) (M : ts_M) : Prop :=
  (∀ x1 : Int, x1 = (-1) → (∀ x2 : Int, x2 = 99 → (∀ x3 : Int, x3 = 0 → ∃ n, ts_lp5 (wX12_wetsNext_L9 Q) n p1 p2 x1 x2 x3 M)))
set_option maxRecDepth 100000 in
set_option maxHeartbeats 4000000 in
theorem mX12_wetsNext {l : Launch} {g : ts_W} (hl : l.stackTraces = false) {p1 : Int} {p2 : Int} {Q : ts_M → Prop} {M : ts_M} : wX12_wetsNext p1 p2 Q M → ts_Con l g yX12_wetsNext cX12_wetsNext 7 none 1 0 0 [.ref (ts_ad g 164), ts_v p1, ts_v p2] M (ts_Rv Q) := by
  intro h0
  refine ts_Con.of hl (by decide) (Nat.le_of_ble_eq_true rfl) ?_
  intro p e s m args below meth c C
  have H88 : ∀  (M : ts_M), wX12_wetsNext_B88   Q  M → ts_V p l e (ts_rm 1 0 0) s m args below meth c g 7 0 0 (MQ below (ts_Q g (ts_Rv Q)) args s 0 0 (ts_A g)) 88 [] [] M := by
    intro   M
    unfold wX12_wetsNext_B88
    exact ts_vreti C (Nat.zero_le _) (Nat.zero_le _) dX12_wetsNext_88
  have H68 : ∀ (k9 : Int → Int → Int → Int → Int → ts_M → Prop) (hk9 : ∀ (y1 : Int) (y2 : Int) (y3 : Int) (y4 : Int) (y5 : Int) (M : ts_M), k9 y1 y2 y3 y4 y5 M → ts_V p l e (ts_rm 1 0 0) s m args below meth c g 7 0 0 (MQ below (ts_Q g (ts_Rv Q)) args s 0 0 (ts_A g)) 9 [(0, .ref (ts_ad g 164)), (1, ts_v y1), (2, ts_v y2), (3, ts_v y3), (4, ts_v y4), (5, ts_v y5)] [] M) (y1 : Int) (y2 : Int) (y3 : Int) (y4 : Int) (y5 : Int) (M : ts_M), wX12_wetsNext_B68  k9 Q y1 y2 y3 y4 y5 M → ts_V p l e (ts_rm 1 0 0) s m args below meth c g 7 0 0 (MQ below (ts_Q g (ts_Rv Q)) args s 0 0 (ts_A g)) 68 [(0, .ref (ts_ad g 164)), (1, ts_v y1), (2, ts_v y2), (3, ts_v y3), (4, ts_v y4), (5, ts_v y5)] [] M := by
    intro k9 hk9 y1 y2 y3 y4 y5 M
    unfold wX12_wetsNext_B68
    refine ts_iinc C dX12_wetsNext_68 5 rfl (by decide) (lv' := fun x10 => [(5, ts_v x10), (0, .ref (ts_ad g 164)), (1, ts_v y1), (2, ts_v y2), (3, ts_v y3), (4, ts_v y4)]) (fun _ => rfl) (fun x10 => ?_)
    refine ts_goto C 9 dX12_wetsNext_71 rfl ?_
    exact ts_sub [1, 2, 3, 4, 5, 0] rfl (hk9 _ _ _ _ _ _)
  have H9 : ∀ (n : Nat) (y1 : Int) (y2 : Int) (y3 : Int) (y4 : Int) (y5 : Int) (M : ts_M), ts_lp5 (wX12_wetsNext_L9   Q) n y1 y2 y3 y4 y5 M → ts_V p l e (ts_rm 1 0 0) s m args below meth c g 7 0 0 (MQ below (ts_Q g (ts_Rv Q)) args s 0 0 (ts_A g)) 9 [(0, .ref (ts_ad g 164)), (1, ts_v y1), (2, ts_v y2), (3, ts_v y3), (4, ts_v y4), (5, ts_v y5)] [] M := by
    refine ts_lpr5 (V := fun (y1 : Int) (y2 : Int) (y3 : Int) (y4 : Int) (y5 : Int) (M : ts_M) => ts_V p l e (ts_rm 1 0 0) s m args below meth c g 7 0 0 (MQ below (ts_Q g (ts_Rv Q)) args s 0 0 (ts_A g)) 9 [(0, .ref (ts_ad g 164)), (1, ts_v y1), (2, ts_v y2), (3, ts_v y3), (4, ts_v y4), (5, ts_v y5)] [] M) ?_
    intro k9 hk9 y1 y2 y3 y4 y5 M
    unfold wX12_wetsNext_L9
    refine ts_iload C dX12_wetsNext_9 5 rfl ?_
    refine ts_bipush C dX12_wetsNext_11 64 tb_64 ?_
    refine ts_cmp_ge C rfl tw_64 74 dX12_wetsNext_13 rfl ?_ ?_
    · refine ts_iload_n C dX12_wetsNext_74 rfl 3 rfl ?_
      refine ts_cm0_lt C rfl 88 dX12_wetsNext_75 rfl ?_ ?_
      · exact ts_sub [] rfl (H88 _)
      · refine ts_aload_n C dX12_wetsNext_78 rfl 0 rfl ?_
        refine tgX12_1 C q_1959 dX12_wetsNext_79 ?_
        refine ts_bipush C dX12_wetsNext_82 82 tb_82 ?_
        refine ts_iload_n C dX12_wetsNext_84 rfl 3 rfl ?_
        refine ts_iadd C dX12_wetsNext_85 ?_
        refine ts_iconst C dX12_wetsNext_86 1 rfl ?_
        refine ts_iast C (by decide) shG165 dX12_wetsNext_87 (fun M4 => ?_)
        exact ts_sub [] rfl (H88 _)
    · refine ts_iload C dX12_wetsNext_16 5 rfl ?_
      refine ts_bipush C dX12_wetsNext_18 8 tb_8 ?_
      refine ts_idivc C (by rw [tw_8]; decide) dX12_wetsNext_20 ?_
      refine ts_iload_n C dX12_wetsNext_21 rfl 1 rfl ?_
      refine ts_callSi C [ts_v (ts_div y5 8), ts_v y1] (mX12_difference hl) kX12_difference q_2193 rfl rfl (Nat.le_of_ble_eq_true rfl) ⟨Nat.le_of_ble_eq_true rfl, Nat.le_of_ble_eq_true rfl⟩ ⟨Nat.le_of_ble_eq_true rfl, Nat.le_of_ble_eq_true rfl⟩ dX12_wetsNext_22 (fun r6 M5 => ?_)
      refine ts_iload C dX12_wetsNext_25 5 rfl ?_
      refine ts_bipush C dX12_wetsNext_27 8 tb_8 ?_
      refine ts_iremc C (by rw [tw_8]; decide) dX12_wetsNext_29 ?_
      refine ts_iload_n C dX12_wetsNext_30 rfl 2 rfl ?_
      refine ts_callSi C [ts_v (ts_rem y5 8), ts_v y2] (mX12_difference hl) kX12_difference q_2193 rfl rfl (Nat.le_of_ble_eq_true rfl) ⟨Nat.le_of_ble_eq_true rfl, Nat.le_of_ble_eq_true rfl⟩ ⟨Nat.le_of_ble_eq_true rfl, Nat.le_of_ble_eq_true rfl⟩ dX12_wetsNext_31 (fun r8 M7 => ?_)
      refine ts_iadd C dX12_wetsNext_34 ?_
      refine ts_istore C dX12_wetsNext_35 (by decide) (lv' := fun x9 => [(6, ts_v x9), (0, .ref (ts_ad g 164)), (1, ts_v y1), (2, ts_v y2), (3, ts_v y3), (4, ts_v y4), (5, ts_v y5)]) (fun _ => rfl) (fun x9 => ?_)
      refine ts_aload_n C dX12_wetsNext_37 rfl 1 rfl ?_
      refine tgX12_1 C q_1959 dX12_wetsNext_38 ?_
      refine ts_bipush C dX12_wetsNext_41 82 tb_82 ?_
      refine ts_iload C dX12_wetsNext_43 6 rfl ?_
      refine ts_iadd C dX12_wetsNext_45 ?_
      refine ts_iald C (by decide) shG165 dX12_wetsNext_46 ?_
      refine ts_iconst C dX12_wetsNext_47 1 rfl ?_
      refine ts_cmp_eq C rfl tw_1 68 dX12_wetsNext_48 rfl ?_ ?_
      · exact ts_sub [1, 2, 3, 4, 5, 6] rfl (H68 k9 hk9 _ _ _ _ _ _)
      · refine ts_iload C dX12_wetsNext_51 0 rfl ?_
        refine ts_iload C dX12_wetsNext_53 5 rfl ?_
        refine ts_cmp_lt C rfl rfl 61 dX12_wetsNext_55 rfl ?_ ?_
        · refine ts_iload C dX12_wetsNext_61 0 rfl ?_
          refine ts_istore C dX12_wetsNext_63 (by decide) (lv' := fun x11 => [(4, ts_v x11), (6, ts_v x9), (0, .ref (ts_ad g 164)), (1, ts_v y1), (2, ts_v y2), (3, ts_v y3), (5, ts_v y5)]) (fun _ => rfl) (fun x11 => ?_)
          refine ts_iload C dX12_wetsNext_65 6 rfl ?_
          refine ts_istore_n C dX12_wetsNext_67 rfl (by decide) (lv' := fun x12 => [(3, ts_v x12), (4, ts_v x11), (6, ts_v x9), (0, .ref (ts_ad g 164)), (1, ts_v y1), (2, ts_v y2), (5, ts_v y5)]) (fun _ => rfl) (fun x12 => ?_)
          exact ts_sub [3, 4, 5, 0, 1, 6] rfl (H68 k9 hk9 _ _ _ _ _ _)
        · refine ts_goto C 68 dX12_wetsNext_58 rfl ?_
          exact ts_sub [1, 2, 3, 4, 5, 6] rfl (H68 k9 hk9 _ _ _ _ _ _)
  revert h0
  unfold wX12_wetsNext
  have hl0 : lv_args 0 [.ref (ts_ad g 164), ts_v p1, ts_v p2] = [(0, .ref (ts_ad g 164)), (1, ts_v p1), (2, ts_v p2)] := rfl
  rw [hl0]
  refine ts_iconst C dX12_wetsNext_0 (-1) rfl ?_
  refine ts_istore_n C dX12_wetsNext_1 rfl (by decide) (lv' := fun x1 => [(3, ts_v x1), (0, .ref (ts_ad g 164)), (1, ts_v p1), (2, ts_v p2)]) (fun _ => rfl) (fun x1 => ?_)
  refine ts_bipush C dX12_wetsNext_2 99 tb_99 ?_
  refine ts_istore C dX12_wetsNext_4 (by decide) (lv' := fun x2 => [(4, ts_v x2), (3, ts_v x1), (0, .ref (ts_ad g 164)), (1, ts_v p1), (2, ts_v p2)]) (fun _ => rfl) (fun x2 => ?_)
  refine ts_iconst C dX12_wetsNext_6 0 rfl ?_
  refine ts_istore C dX12_wetsNext_7 (by decide) (lv' := fun x3 => [(5, ts_v x3), (4, ts_v x2), (3, ts_v x1), (0, .ref (ts_ad g 164)), (1, ts_v p1), (2, ts_v p2)]) (fun _ => rfl) (fun x3 => ?_)
  rintro ⟨n, hn⟩
  exact ts_sub [3, 4, 5, 2, 1, 0] rfl (H9 n _ _ _ _ _ _) hn
def wX12_isBesideMarked_B87   (Q : Int → ts_M → Prop)  (z0 : Int) (M : ts_M) : Prop :=
  ((ts_w z0 = 0 ∨ ts_w z0 = 1) ∧ Q z0 M)
def wX12_isBesideMarked_B86   (Q : Int → ts_M → Prop)   (M : ts_M) : Prop :=
  wX12_isBesideMarked_B87 Q 0 M
def wX12_isBesideMarked_B82   (Q : Int → ts_M → Prop)   (M : ts_M) : Prop :=
  wX12_isBesideMarked_B87 Q 1 M
def wX12_isBesideMarked_B64   (Q : Int → ts_M → Prop)  (y1 : Int) (y3 : Int) (M : ts_M) : Prop :=
  ((7 ≤ ts_w y3 → wX12_isBesideMarked_B86 Q M) ∧ (¬ (7 ≤ ts_w y3) → ((0 ≤ ts_w (y1 + 1) ∧ ts_w (y1 + 1) < ((64 : Nat) : Int)) ∧ ((¬ (ts_w (M.1 169 (ts_w (y1 + 1))) = 1) → wX12_isBesideMarked_B86 Q M) ∧ (ts_w (M.1 169 (ts_w (y1 + 1))) = 1 → wX12_isBesideMarked_B82 Q M)))))
def wX12_isBesideMarked_B48   (Q : Int → ts_M → Prop)  (y1 : Int) (y3 : Int) (M : ts_M) : Prop :=
  ((ts_w y3 ≤ 0 → wX12_isBesideMarked_B64 Q y1 y3 M) ∧ (¬ (ts_w y3 ≤ 0) → ((0 ≤ ts_w (y1 - 1) ∧ ts_w (y1 - 1) < ((64 : Nat) : Int)) ∧ ((ts_w (M.1 169 (ts_w (y1 - 1))) = 1 → wX12_isBesideMarked_B82 Q M) ∧ (¬ (ts_w (M.1 169 (ts_w (y1 - 1))) = 1) → wX12_isBesideMarked_B64 Q y1 y3 M)))))
def wX12_isBesideMarked_B46   (Q : Int → ts_M → Prop)   (M : ts_M) : Prop :=
  Q 1 M
def wX12_isBesideMarked_B27   (Q : Int → ts_M → Prop)  (y1 : Int) (y2 : Int) (y3 : Int) (M : ts_M) : Prop :=
  ((7 ≤ ts_w y2 → wX12_isBesideMarked_B48 Q y1 y3 M) ∧ (¬ (7 ≤ ts_w y2) → ((0 ≤ ts_w (y1 + 8) ∧ ts_w (y1 + 8) < ((64 : Nat) : Int)) ∧ ((¬ (ts_w (M.1 169 (ts_w (y1 + 8))) = 1) → wX12_isBesideMarked_B48 Q y1 y3 M) ∧ (ts_w (M.1 169 (ts_w (y1 + 8))) = 1 → wX12_isBesideMarked_B46 Q M)))))
def wX12_isBesideMarked (p1 : Int) (Q : Int → ts_M → Prop) (M : ts_M) : Prop :=
  (∀ x1 : Int, x1 = ts_div p1 8 → (∀ x2 : Int, x2 = ts_rem p1 8 → ((ts_w x1 ≤ 0 → wX12_isBesideMarked_B27 Q p1 x1 x2 M) ∧ (¬ (ts_w x1 ≤ 0) → ((0 ≤ ts_w (p1 - 8) ∧ ts_w (p1 - 8) < ((64 : Nat) : Int)) ∧ ((ts_w (M.1 169 (ts_w (p1 - 8))) = 1 → wX12_isBesideMarked_B46 Q M) ∧ (¬ (ts_w (M.1 169 (ts_w (p1 - 8))) = 1) → wX12_isBesideMarked_B27 Q p1 x1 x2 M)))))))
set_option maxRecDepth 100000 in
set_option maxHeartbeats 4000000 in
theorem mX12_isBesideMarked {l : Launch} {g : ts_W} (hl : l.stackTraces = false) {p1 : Int} {Q : Int → ts_M → Prop} {M : ts_M} : wX12_isBesideMarked p1 Q M → ts_Con l g yX12_isBesideMarked cX12_isBesideMarked 4 (some .boolean) 0 0 0 [.ref (ts_ad g 164), ts_v p1] M (ts_Ri Q) := by
  intro h0
  refine ts_Con.of hl (by decide) (Nat.le_of_ble_eq_true rfl) ?_
  intro p e s m args below meth c C
  have H87 : ∀ (z0 : Int) (M : ts_M), wX12_isBesideMarked_B87   Q z0 M → ts_V p l e (ts_rm 0 0 0) s m args below meth c g 4 0 0 (MQ below (ts_Q g (ts_Ri Q)) args s 0 0 (ts_A g)) 87 [] [ts_v z0] M := by
    intro  z0 M
    unfold wX12_isBesideMarked_B87
    exact ts_zreti C (Nat.zero_le _) (Nat.zero_le _) dX12_isBesideMarked_87
  have H86 : ∀  (M : ts_M), wX12_isBesideMarked_B86   Q  M → ts_V p l e (ts_rm 0 0 0) s m args below meth c g 4 0 0 (MQ below (ts_Q g (ts_Ri Q)) args s 0 0 (ts_A g)) 86 [] [] M := by
    intro   M
    unfold wX12_isBesideMarked_B86
    refine ts_iconst C dX12_isBesideMarked_86 0 rfl ?_
    exact ts_sub [] rfl (H87 _ _)
  have H82 : ∀  (M : ts_M), wX12_isBesideMarked_B82   Q  M → ts_V p l e (ts_rm 0 0 0) s m args below meth c g 4 0 0 (MQ below (ts_Q g (ts_Ri Q)) args s 0 0 (ts_A g)) 82 [] [] M := by
    intro   M
    unfold wX12_isBesideMarked_B82
    refine ts_iconst C dX12_isBesideMarked_82 1 rfl ?_
    refine ts_goto C 87 dX12_isBesideMarked_83 rfl ?_
    exact ts_sub [] rfl (H87 _ _)
  have H64 : ∀ (y1 : Int) (y3 : Int) (M : ts_M), wX12_isBesideMarked_B64   Q y1 y3 M → ts_V p l e (ts_rm 0 0 0) s m args below meth c g 4 0 0 (MQ below (ts_Q g (ts_Ri Q)) args s 0 0 (ts_A g)) 64 [(0, .ref (ts_ad g 164)), (1, ts_v y1), (3, ts_v y3)] [] M := by
    intro  y1 y3 M
    unfold wX12_isBesideMarked_B64
    refine ts_iload_n C dX12_isBesideMarked_64 rfl 2 rfl ?_
    refine ts_bipush C dX12_isBesideMarked_65 7 tb_7 ?_
    refine ts_cmp_ge C rfl tw_7 86 dX12_isBesideMarked_67 rfl ?_ ?_
    · exact ts_sub [] rfl (H86 _)
    · refine ts_aload_n C dX12_isBesideMarked_70 rfl 0 rfl ?_
      refine tgX12_8 C q_1966 dX12_isBesideMarked_71 ?_
      refine ts_iload_n C dX12_isBesideMarked_74 rfl 1 rfl ?_
      refine ts_iconst C dX12_isBesideMarked_75 1 rfl ?_
      refine ts_iadd C dX12_isBesideMarked_76 ?_
      refine ts_iald C (by decide) shG169 dX12_isBesideMarked_77 ?_
      refine ts_iconst C dX12_isBesideMarked_78 1 rfl ?_
      refine ts_cmp_ne C rfl tw_1 86 dX12_isBesideMarked_79 rfl ?_ ?_
      · exact ts_sub [] rfl (H86 _)
      · exact ts_sub [] rfl (H82 _)
  have H48 : ∀ (y1 : Int) (y3 : Int) (M : ts_M), wX12_isBesideMarked_B48   Q y1 y3 M → ts_V p l e (ts_rm 0 0 0) s m args below meth c g 4 0 0 (MQ below (ts_Q g (ts_Ri Q)) args s 0 0 (ts_A g)) 48 [(0, .ref (ts_ad g 164)), (1, ts_v y1), (3, ts_v y3)] [] M := by
    intro  y1 y3 M
    unfold wX12_isBesideMarked_B48
    refine ts_iload_n C dX12_isBesideMarked_48 rfl 2 rfl ?_
    refine ts_cm0_le C rfl 64 dX12_isBesideMarked_49 rfl ?_ ?_
    · exact ts_sub [0, 1, 2] rfl (H64 _ _ _)
    · refine ts_aload_n C dX12_isBesideMarked_52 rfl 0 rfl ?_
      refine tgX12_8 C q_1966 dX12_isBesideMarked_53 ?_
      refine ts_iload_n C dX12_isBesideMarked_56 rfl 1 rfl ?_
      refine ts_iconst C dX12_isBesideMarked_57 1 rfl ?_
      refine ts_isub C dX12_isBesideMarked_58 ?_
      refine ts_iald C (by decide) shG169 dX12_isBesideMarked_59 ?_
      refine ts_iconst C dX12_isBesideMarked_60 1 rfl ?_
      refine ts_cmp_eq C rfl tw_1 82 dX12_isBesideMarked_61 rfl ?_ ?_
      · exact ts_sub [] rfl (H82 _)
      · exact ts_sub [0, 1, 2] rfl (H64 _ _ _)
  have H46 : ∀  (M : ts_M), wX12_isBesideMarked_B46   Q  M → ts_V p l e (ts_rm 0 0 0) s m args below meth c g 4 0 0 (MQ below (ts_Q g (ts_Ri Q)) args s 0 0 (ts_A g)) 46 [] [] M := by
    intro   M
    unfold wX12_isBesideMarked_B46
    refine ts_iconst C dX12_isBesideMarked_46 1 rfl ?_
    exact ts_zretci C (by decide) (Nat.zero_le _) (Nat.zero_le _) dX12_isBesideMarked_47
  have H27 : ∀ (y1 : Int) (y2 : Int) (y3 : Int) (M : ts_M), wX12_isBesideMarked_B27   Q y1 y2 y3 M → ts_V p l e (ts_rm 0 0 0) s m args below meth c g 4 0 0 (MQ below (ts_Q g (ts_Ri Q)) args s 0 0 (ts_A g)) 27 [(0, .ref (ts_ad g 164)), (1, ts_v y1), (2, ts_v y2), (3, ts_v y3)] [] M := by
    intro  y1 y2 y3 M
    unfold wX12_isBesideMarked_B27
    refine ts_iload_n C dX12_isBesideMarked_27 rfl 2 rfl ?_
    refine ts_bipush C dX12_isBesideMarked_28 7 tb_7 ?_
    refine ts_cmp_ge C rfl tw_7 48 dX12_isBesideMarked_30 rfl ?_ ?_
    · exact ts_sub [0, 1, 3] rfl (H48 _ _ _)
    · refine ts_aload_n C dX12_isBesideMarked_33 rfl 0 rfl ?_
      refine tgX12_8 C q_1966 dX12_isBesideMarked_34 ?_
      refine ts_iload_n C dX12_isBesideMarked_37 rfl 1 rfl ?_
      refine ts_bipush C dX12_isBesideMarked_38 8 tb_8 ?_
      refine ts_iadd C dX12_isBesideMarked_40 ?_
      refine ts_iald C (by decide) shG169 dX12_isBesideMarked_41 ?_
      refine ts_iconst C dX12_isBesideMarked_42 1 rfl ?_
      refine ts_cmp_ne C rfl tw_1 48 dX12_isBesideMarked_43 rfl ?_ ?_
      · exact ts_sub [0, 1, 3] rfl (H48 _ _ _)
      · exact ts_sub [] rfl (H46 _)
  revert h0
  unfold wX12_isBesideMarked
  have hl0 : lv_args 0 [.ref (ts_ad g 164), ts_v p1] = [(0, .ref (ts_ad g 164)), (1, ts_v p1)] := rfl
  rw [hl0]
  refine ts_iload_n C dX12_isBesideMarked_0 rfl 1 rfl ?_
  refine ts_bipush C dX12_isBesideMarked_1 8 tb_8 ?_
  refine ts_idivc C (by rw [tw_8]; decide) dX12_isBesideMarked_3 ?_
  refine ts_istore_n C dX12_isBesideMarked_4 rfl (by decide) (lv' := fun x1 => [(2, ts_v x1), (0, .ref (ts_ad g 164)), (1, ts_v p1)]) (fun _ => rfl) (fun x1 => ?_)
  refine ts_iload_n C dX12_isBesideMarked_5 rfl 2 rfl ?_
  refine ts_bipush C dX12_isBesideMarked_6 8 tb_8 ?_
  refine ts_iremc C (by rw [tw_8]; decide) dX12_isBesideMarked_8 ?_
  refine ts_istore_n C dX12_isBesideMarked_9 rfl (by decide) (lv' := fun x2 => [(3, ts_v x2), (2, ts_v x1), (0, .ref (ts_ad g 164)), (1, ts_v p1)]) (fun _ => rfl) (fun x2 => ?_)
  refine ts_iload_n C dX12_isBesideMarked_10 rfl 1 rfl ?_
  refine ts_cm0_le C rfl 27 dX12_isBesideMarked_11 rfl ?_ ?_
  · exact ts_sub [2, 3, 1, 0] rfl (H27 _ _ _ _)
  · refine ts_aload_n C dX12_isBesideMarked_14 rfl 2 rfl ?_
    refine tgX12_8 C q_1966 dX12_isBesideMarked_15 ?_
    refine ts_iload_n C dX12_isBesideMarked_18 rfl 3 rfl ?_
    refine ts_bipush C dX12_isBesideMarked_19 8 tb_8 ?_
    refine ts_isub C dX12_isBesideMarked_21 ?_
    refine ts_iald C (by decide) shG169 dX12_isBesideMarked_22 ?_
    refine ts_iconst C dX12_isBesideMarked_23 1 rfl ?_
    refine ts_cmp_eq C rfl tw_1 46 dX12_isBesideMarked_24 rfl ?_ ?_
    · exact ts_sub [] rfl (H46 _)
    · exact ts_sub [2, 3, 1, 0] rfl (H27 _ _ _ _)
def wX12_notSpill_B25   (Q : Int → ts_M → Prop)  (z0 : Int) (M : ts_M) : Prop :=
  Q z0 M
def wX12_notSpill (p1 : Int) (p2 : Int) (p3 : Int) (Q : Int → ts_M → Prop) (M : ts_M) : Prop :=
  (wX12_isCell p1 p2 (fun r2 M1 => ((¬ (ts_w r2 = 0) → (wX12_isBetween p3 1 30 (fun r4 M3 => ((ts_w r4 = 0 → wX12_notSpill_B25 Q 2 M3) ∧ (¬ (ts_w r4 = 0) → wX12_notSpill_B25 Q 0 M3))) M1)) ∧ (ts_w r2 = 0 → Q 1 M1))) M)
set_option maxRecDepth 100000 in
set_option maxHeartbeats 4000000 in
theorem mX12_notSpill {l : Launch} {g : ts_W} (hl : l.stackTraces = false) {p1 : Int} {p2 : Int} {p3 : Int} {Q : Int → ts_M → Prop} {M : ts_M} : wX12_notSpill p1 p2 p3 Q M → ts_Con l g yX12_notSpill cX12_notSpill 3 (some .int) 2 0 0 [ts_v p1, ts_v p2, ts_v p3] M (ts_Ri Q) := by
  intro h0
  refine ts_Con.of hl (by decide) (Nat.le_of_ble_eq_true rfl) ?_
  intro p e s m args below meth c C
  have H25 : ∀ (z0 : Int) (M : ts_M), wX12_notSpill_B25   Q z0 M → ts_V p l e (ts_rm 2 0 0) s m args below meth c g 3 0 0 (MQ below (ts_Q g (ts_Ri Q)) args s 0 0 (ts_A g)) 25 [] [ts_v z0] M := by
    intro  z0 M
    unfold wX12_notSpill_B25
    exact ts_ireti C (Nat.zero_le _) (Nat.zero_le _) dX12_notSpill_25
  revert h0
  unfold wX12_notSpill
  have hl0 : lv_args 0 [ts_v p1, ts_v p2, ts_v p3] = [(0, ts_v p1), (1, ts_v p2), (2, ts_v p3)] := rfl
  rw [hl0]
  refine ts_iload_n C dX12_notSpill_0 rfl 0 rfl ?_
  refine ts_iload_n C dX12_notSpill_1 rfl 1 rfl ?_
  refine ts_callSi C [ts_v p1, ts_v p2] (mX12_isCell hl) kX12_isCell q_2235 rfl rfl (Nat.le_of_ble_eq_true rfl) ⟨Nat.le_of_ble_eq_true rfl, Nat.le_of_ble_eq_true rfl⟩ ⟨Nat.le_of_ble_eq_true rfl, Nat.le_of_ble_eq_true rfl⟩ dX12_notSpill_2 (fun r2 M1 => ?_)
  refine ts_cm0_ne C rfl 10 dX12_notSpill_5 rfl ?_ ?_
  · refine ts_iload_n C dX12_notSpill_10 rfl 2 rfl ?_
    refine ts_iconst C dX12_notSpill_11 1 rfl ?_
    refine ts_bipush C dX12_notSpill_12 30 tb_30 ?_
    refine ts_callSi C [ts_v p3, ts_v 1, ts_v 30] (mX12_isBetween hl) kX12_isBetween q_2034 rfl rfl (Nat.le_of_ble_eq_true rfl) ⟨Nat.le_of_ble_eq_true rfl, Nat.le_of_ble_eq_true rfl⟩ ⟨Nat.le_of_ble_eq_true rfl, Nat.le_of_ble_eq_true rfl⟩ dX12_notSpill_14 (fun r4 M3 => ?_)
    refine ts_cm0_eq C rfl 24 dX12_notSpill_17 rfl ?_ ?_
    · refine ts_iconst C dX12_notSpill_24 2 rfl ?_
      exact ts_sub [] rfl (H25 _ _)
    · refine ts_iconst C dX12_notSpill_20 0 rfl ?_
      refine ts_goto C 25 dX12_notSpill_21 rfl ?_
      exact ts_sub [] rfl (H25 _ _)
  · refine ts_iconst C dX12_notSpill_8 1 rfl ?_
    exact ts_ireti C (Nat.zero_le _) (Nat.zero_le _) dX12_notSpill_9
def wX12_notMop_B33   (Q : Int → ts_M → Prop)  (z0 : Int) (M : ts_M) : Prop :=
  Q z0 M
def wX12_notMop (p1 : Int) (p2 : Int) (Q : Int → ts_M → Prop) (M : ts_M) : Prop :=
  (wX12_isCell p1 p2 (fun r2 M1 => ((¬ (ts_w r2 = 0) → ((0 ≤ ts_w ((82 + (8 * p1)) + p2) ∧ ts_w ((82 + (8 * p1)) + p2) < ((146 : Nat) : Int)) ∧ ((¬ (ts_w (M1.1 165 (ts_w ((82 + (8 * p1)) + p2))) = 1) → wX12_notMop_B33 Q 2 M1) ∧ (ts_w (M1.1 165 (ts_w ((82 + (8 * p1)) + p2))) = 1 → wX12_notMop_B33 Q 0 M1)))) ∧ (ts_w r2 = 0 → Q 1 M1))) M)
set_option maxRecDepth 100000 in
set_option maxHeartbeats 4000000 in
theorem mX12_notMop {l : Launch} {g : ts_W} (hl : l.stackTraces = false) {p1 : Int} {p2 : Int} {Q : Int → ts_M → Prop} {M : ts_M} : wX12_notMop p1 p2 Q M → ts_Con l g yX12_notMop cX12_notMop 3 (some .int) 2 0 0 [.ref (ts_ad g 164), ts_v p1, ts_v p2] M (ts_Ri Q) := by
  intro h0
  refine ts_Con.of hl (by decide) (Nat.le_of_ble_eq_true rfl) ?_
  intro p e s m args below meth c C
  have H33 : ∀ (z0 : Int) (M : ts_M), wX12_notMop_B33   Q z0 M → ts_V p l e (ts_rm 2 0 0) s m args below meth c g 3 0 0 (MQ below (ts_Q g (ts_Ri Q)) args s 0 0 (ts_A g)) 33 [] [ts_v z0] M := by
    intro  z0 M
    unfold wX12_notMop_B33
    exact ts_ireti C (Nat.zero_le _) (Nat.zero_le _) dX12_notMop_33
  revert h0
  unfold wX12_notMop
  have hl0 : lv_args 0 [.ref (ts_ad g 164), ts_v p1, ts_v p2] = [(0, .ref (ts_ad g 164)), (1, ts_v p1), (2, ts_v p2)] := rfl
  rw [hl0]
  refine ts_iload_n C dX12_notMop_0 rfl 1 rfl ?_
  refine ts_iload_n C dX12_notMop_1 rfl 2 rfl ?_
  refine ts_callSi C [ts_v p1, ts_v p2] (mX12_isCell hl) kX12_isCell q_2235 rfl rfl (Nat.le_of_ble_eq_true rfl) ⟨Nat.le_of_ble_eq_true rfl, Nat.le_of_ble_eq_true rfl⟩ ⟨Nat.le_of_ble_eq_true rfl, Nat.le_of_ble_eq_true rfl⟩ dX12_notMop_2 (fun r2 M1 => ?_)
  refine ts_cm0_ne C rfl 10 dX12_notMop_5 rfl ?_ ?_
  · refine ts_aload_n C dX12_notMop_10 rfl 0 rfl ?_
    refine tgX12_1 C q_1959 dX12_notMop_11 ?_
    refine ts_bipush C dX12_notMop_14 82 tb_82 ?_
    refine ts_bipush C dX12_notMop_16 8 tb_8 ?_
    refine ts_iload_n C dX12_notMop_18 rfl 1 rfl ?_
    refine ts_imul C dX12_notMop_19 ?_
    refine ts_iadd C dX12_notMop_20 ?_
    refine ts_iload_n C dX12_notMop_21 rfl 2 rfl ?_
    refine ts_iadd C dX12_notMop_22 ?_
    refine ts_iald C (by decide) shG165 dX12_notMop_23 ?_
    refine ts_iconst C dX12_notMop_24 1 rfl ?_
    refine ts_cmp_ne C rfl tw_1 32 dX12_notMop_25 rfl ?_ ?_
    · refine ts_iconst C dX12_notMop_32 2 rfl ?_
      exact ts_sub [] rfl (H33 _ _)
    · refine ts_iconst C dX12_notMop_28 0 rfl ?_
      refine ts_goto C 33 dX12_notMop_29 rfl ?_
      exact ts_sub [] rfl (H33 _ _)
  · refine ts_iconst C dX12_notMop_8 1 rfl ?_
    exact ts_ireti C (Nat.zero_le _) (Nat.zero_le _) dX12_notMop_9
def wX12_notSugar_B25   (Q : Int → ts_M → Prop)  (z0 : Int) (M : ts_M) : Prop :=
  Q z0 M
def wX12_notSugar (p1 : Int) (p2 : Int) (Q : Int → ts_M → Prop) (M : ts_M) : Prop :=
  (wX12_isSpoon p1 (fun r2 M1 => ((¬ (ts_w r2 = 0) → (wX12_isBetween p2 1 9 (fun r4 M3 => ((ts_w r4 = 0 → wX12_notSugar_B25 Q 2 M3) ∧ (¬ (ts_w r4 = 0) → wX12_notSugar_B25 Q 0 M3))) M1)) ∧ (ts_w r2 = 0 → Q 1 M1))) M)
set_option maxRecDepth 100000 in
set_option maxHeartbeats 4000000 in
theorem mX12_notSugar {l : Launch} {g : ts_W} (hl : l.stackTraces = false) {p1 : Int} {p2 : Int} {Q : Int → ts_M → Prop} {M : ts_M} : wX12_notSugar p1 p2 Q M → ts_Con l g yX12_notSugar cX12_notSugar 3 (some .int) 2 0 0 [.ref (ts_ad g 164), ts_v p1, ts_v p2] M (ts_Ri Q) := by
  intro h0
  refine ts_Con.of hl (by decide) (Nat.le_of_ble_eq_true rfl) ?_
  intro p e s m args below meth c C
  have H25 : ∀ (z0 : Int) (M : ts_M), wX12_notSugar_B25   Q z0 M → ts_V p l e (ts_rm 2 0 0) s m args below meth c g 3 0 0 (MQ below (ts_Q g (ts_Ri Q)) args s 0 0 (ts_A g)) 25 [] [ts_v z0] M := by
    intro  z0 M
    unfold wX12_notSugar_B25
    exact ts_ireti C (Nat.zero_le _) (Nat.zero_le _) dX12_notSugar_25
  revert h0
  unfold wX12_notSugar
  have hl0 : lv_args 0 [.ref (ts_ad g 164), ts_v p1, ts_v p2] = [(0, .ref (ts_ad g 164)), (1, ts_v p1), (2, ts_v p2)] := rfl
  rw [hl0]
  refine ts_aload_n C dX12_notSugar_0 rfl 0 rfl ?_
  refine ts_iload_n C dX12_notSugar_1 rfl 1 rfl ?_
  refine ts_callVi C [ts_v p1] (mX12_isSpoon hl) kX12_isSpoon q_2145 (by decide) shX12 rfl rfl rfl (Nat.le_of_ble_eq_true rfl) ⟨Nat.le_of_ble_eq_true rfl, Nat.le_of_ble_eq_true rfl⟩ ⟨Nat.le_of_ble_eq_true rfl, Nat.le_of_ble_eq_true rfl⟩ dX12_notSugar_2 (fun r2 M1 => ?_)
  refine ts_cm0_ne C rfl 10 dX12_notSugar_5 rfl ?_ ?_
  · refine ts_iload_n C dX12_notSugar_10 rfl 2 rfl ?_
    refine ts_iconst C dX12_notSugar_11 1 rfl ?_
    refine ts_bipush C dX12_notSugar_12 9 tb_9 ?_
    refine ts_callSi C [ts_v p2, ts_v 1, ts_v 9] (mX12_isBetween hl) kX12_isBetween q_2034 rfl rfl (Nat.le_of_ble_eq_true rfl) ⟨Nat.le_of_ble_eq_true rfl, Nat.le_of_ble_eq_true rfl⟩ ⟨Nat.le_of_ble_eq_true rfl, Nat.le_of_ble_eq_true rfl⟩ dX12_notSugar_14 (fun r4 M3 => ?_)
    refine ts_cm0_eq C rfl 24 dX12_notSugar_17 rfl ?_ ?_
    · refine ts_iconst C dX12_notSugar_24 2 rfl ?_
      exact ts_sub [] rfl (H25 _ _)
    · refine ts_iconst C dX12_notSugar_20 0 rfl ?_
      refine ts_goto C 25 dX12_notSugar_21 rfl ?_
      exact ts_sub [] rfl (H25 _ _)
  · refine ts_iconst C dX12_notSugar_8 1 rfl ?_
    exact ts_ireti C (Nat.zero_le _) (Nat.zero_le _) dX12_notSugar_9
def wX12_gives (p1 : Int) (p2 : Int) (Q : Int → ts_M → Prop) (M : ts_M) : Prop :=
  (wX12_spoon p1 2 (fun r2 M1 => (wX12_puts p1 2 (r2 + p2) (fun M3 => (∀ M4, M4 = ts_si M3 165 9 ((M3.1 165 9) + p2) → (wX12_spoon p1 2 (fun r6 M5 => Q r6 M5) M4))) M1)) M)
set_option maxRecDepth 100000 in
set_option maxHeartbeats 4000000 in
theorem mX12_gives {l : Launch} {g : ts_W} (hl : l.stackTraces = false) {p1 : Int} {p2 : Int} {Q : Int → ts_M → Prop} {M : ts_M} : wX12_gives p1 p2 Q M → ts_Con l g yX12_gives cX12_gives 3 (some .int) 1 0 0 [.ref (ts_ad g 164), ts_v p1, ts_v p2] M (ts_Ri Q) := by
  intro h0
  refine ts_Con.of hl (by decide) (Nat.le_of_ble_eq_true rfl) ?_
  intro p e s m args below meth c C
  revert h0
  unfold wX12_gives
  have hl0 : lv_args 0 [.ref (ts_ad g 164), ts_v p1, ts_v p2] = [(0, .ref (ts_ad g 164)), (1, ts_v p1), (2, ts_v p2)] := rfl
  rw [hl0]
  refine ts_aload_n C dX12_gives_0 rfl 0 rfl ?_
  refine ts_iload_n C dX12_gives_1 rfl 1 rfl ?_
  refine ts_iconst C dX12_gives_2 2 rfl ?_
  refine ts_aload_n C dX12_gives_3 rfl 0 rfl ?_
  refine ts_iload_n C dX12_gives_4 rfl 1 rfl ?_
  refine ts_iconst C dX12_gives_5 2 rfl ?_
  refine ts_callVi C [ts_v p1, ts_v 2] (mX12_spoon hl) kX12_spoon q_2149 (by decide) shX12 rfl rfl rfl (Nat.le_of_ble_eq_true rfl) ⟨Nat.le_of_ble_eq_true rfl, Nat.le_of_ble_eq_true rfl⟩ ⟨Nat.le_of_ble_eq_true rfl, Nat.le_of_ble_eq_true rfl⟩ dX12_gives_6 (fun r2 M1 => ?_)
  refine ts_iload_n C dX12_gives_9 rfl 2 rfl ?_
  refine ts_iadd C dX12_gives_10 ?_
  refine ts_callVv C [ts_v p1, ts_v 2, ts_v (r2 + p2)] (mX12_puts hl) kX12_puts q_2057 (by decide) shX12 rfl rfl rfl (Nat.le_of_ble_eq_true rfl) ⟨Nat.le_of_ble_eq_true rfl, Nat.le_of_ble_eq_true rfl⟩ ⟨Nat.le_of_ble_eq_true rfl, Nat.le_of_ble_eq_true rfl⟩ dX12_gives_11 (fun M3 => ?_)
  refine ts_aload_n C dX12_gives_14 rfl 0 rfl ?_
  refine tgX12_1 C q_1959 dX12_gives_15 ?_
  refine ts_bipush C dX12_gives_18 9 tb_9 ?_
  refine ts_dup2 C dX12_gives_20 rfl rfl ?_
  refine ts_ialdc C (by decide) shG165 tw_9 (by decide) dX12_gives_21 ?_
  refine ts_iload_n C dX12_gives_22 rfl 2 rfl ?_
  refine ts_iadd C dX12_gives_23 ?_
  refine ts_iastc C (by decide) shG165 tw_9 (by decide) dX12_gives_24 (fun M4 => ?_)
  refine ts_aload_n C dX12_gives_25 rfl 0 rfl ?_
  refine ts_iload_n C dX12_gives_26 rfl 1 rfl ?_
  refine ts_iconst C dX12_gives_27 2 rfl ?_
  refine ts_callVi C [ts_v p1, ts_v 2] (mX12_spoon hl) kX12_spoon q_2149 (by decide) shX12 rfl rfl rfl (Nat.le_of_ble_eq_true rfl) ⟨Nat.le_of_ble_eq_true rfl, Nat.le_of_ble_eq_true rfl⟩ ⟨Nat.le_of_ble_eq_true rfl, Nat.le_of_ble_eq_true rfl⟩ dX12_gives_28 (fun r6 M5 => ?_)
  exact ts_ireti C (Nat.zero_le _) (Nat.zero_le _) dX12_gives_31
def wX12_giveSugar (p1 : Int) (p2 : Int) (Q : Int → ts_M → Prop) (M : ts_M) : Prop :=
  (∀ M1, M1 = ts_si M 164 0 0 → (wX12_notSugar p1 p2 (fun r3 M2 => (∀ x4 : Int, x4 = r3 → ((ts_w x4 = 0 → (wX12_remembers  (fun M5 => (wX12_gives p1 p2 (fun r7 M6 => Q r7 M6) M5)) M2)) ∧ (¬ (ts_w x4 = 0) → (wX12_fails x4 (fun r9 M8 => Q r9 M8) M2))))) M1))
set_option maxRecDepth 100000 in
set_option maxHeartbeats 4000000 in
theorem mX12_giveSugar {l : Launch} {g : ts_W} (hl : l.stackTraces = false) {p1 : Int} {p2 : Int} {Q : Int → ts_M → Prop} {M : ts_M} : wX12_giveSugar p1 p2 Q M → ts_Con l g yX12_giveSugar cX12_giveSugar 4 (some .int) 3 0 0 [.ref (ts_ad g 164), ts_v p1, ts_v p2] M (ts_Ri Q) := by
  intro h0
  refine ts_Con.of hl (by decide) (Nat.le_of_ble_eq_true rfl) ?_
  intro p e s m args below meth c C
  revert h0
  unfold wX12_giveSugar
  have hl0 : lv_args 0 [.ref (ts_ad g 164), ts_v p1, ts_v p2] = [(0, .ref (ts_ad g 164)), (1, ts_v p1), (2, ts_v p2)] := rfl
  rw [hl0]
  refine ts_aload_n C dX12_giveSugar_0 rfl 0 rfl ?_
  refine ts_iconst C dX12_giveSugar_1 0 rfl ?_
  refine tpX12_0 C q_1958 dX12_giveSugar_2 (fun M1 => ?_)
  refine ts_aload_n C dX12_giveSugar_5 rfl 0 rfl ?_
  refine ts_iload_n C dX12_giveSugar_6 rfl 1 rfl ?_
  refine ts_iload_n C dX12_giveSugar_7 rfl 2 rfl ?_
  refine ts_callVi C [ts_v p1, ts_v p2] (mX12_notSugar hl) kX12_notSugar q_2278 (by decide) shX12 rfl rfl rfl (Nat.le_of_ble_eq_true rfl) ⟨Nat.le_of_ble_eq_true rfl, Nat.le_of_ble_eq_true rfl⟩ ⟨Nat.le_of_ble_eq_true rfl, Nat.le_of_ble_eq_true rfl⟩ dX12_giveSugar_8 (fun r3 M2 => ?_)
  refine ts_istore_n C dX12_giveSugar_11 rfl (by decide) (lv' := fun x4 => [(3, ts_v x4), (0, .ref (ts_ad g 164)), (1, ts_v p1), (2, ts_v p2)]) (fun _ => rfl) (fun x4 => ?_)
  refine ts_iload_n C dX12_giveSugar_12 rfl 0 rfl ?_
  refine ts_cm0_eq C rfl 22 dX12_giveSugar_13 rfl ?_ ?_
  · refine ts_aload_n C dX12_giveSugar_22 rfl 1 rfl ?_
    refine ts_callVv C [] (mX12_remembers hl) kX12_remembers q_2041 (by decide) shX12 rfl rfl rfl (Nat.le_of_ble_eq_true rfl) ⟨Nat.le_of_ble_eq_true rfl, Nat.le_of_ble_eq_true rfl⟩ ⟨Nat.le_of_ble_eq_true rfl, Nat.le_of_ble_eq_true rfl⟩ dX12_giveSugar_23 (fun M5 => ?_)
    refine ts_aload_n C dX12_giveSugar_26 rfl 1 rfl ?_
    refine ts_iload_n C dX12_giveSugar_27 rfl 2 rfl ?_
    refine ts_iload_n C dX12_giveSugar_28 rfl 3 rfl ?_
    refine ts_callVi C [ts_v p1, ts_v p2] (mX12_gives hl) kX12_gives q_2282 (by decide) shX12 rfl rfl rfl (Nat.le_of_ble_eq_true rfl) ⟨Nat.le_of_ble_eq_true rfl, Nat.le_of_ble_eq_true rfl⟩ ⟨Nat.le_of_ble_eq_true rfl, Nat.le_of_ble_eq_true rfl⟩ dX12_giveSugar_29 (fun r7 M6 => ?_)
    exact ts_ireti C (Nat.zero_le _) (Nat.zero_le _) dX12_giveSugar_32
  · refine ts_aload_n C dX12_giveSugar_16 rfl 1 rfl ?_
    refine ts_iload_n C dX12_giveSugar_17 rfl 0 rfl ?_
    refine ts_callVi C [ts_v x4] (mX12_fails hl) kX12_fails q_2037 (by decide) shX12 rfl rfl rfl (Nat.le_of_ble_eq_true rfl) ⟨Nat.le_of_ble_eq_true rfl, Nat.le_of_ble_eq_true rfl⟩ ⟨Nat.le_of_ble_eq_true rfl, Nat.le_of_ble_eq_true rfl⟩ dX12_giveSugar_18 (fun r9 M8 => ?_)
    exact ts_ireti C (Nat.zero_le _) (Nat.zero_le _) dX12_giveSugar_21
def wX12_told (p1 : Int) (Q : Int → ts_M → Prop) (M : ts_M) : Prop :=
  (∀ M1, M1 = ts_si M 164 0 0 → ((0 ≤ ts_w p1 ∧ ts_w p1 < ((146 : Nat) : Int)) ∧ Q (M1.1 165 (ts_w p1)) M1))
set_option maxRecDepth 100000 in
set_option maxHeartbeats 4000000 in
theorem mX12_told {l : Launch} {g : ts_W} (hl : l.stackTraces = false) {p1 : Int} {Q : Int → ts_M → Prop} {M : ts_M} : wX12_told p1 Q M → ts_Con l g yX12_told cX12_told 2 (some .int) 0 0 0 [.ref (ts_ad g 164), ts_v p1] M (ts_Ri Q) := by
  intro h0
  refine ts_Con.of hl (by decide) (Nat.le_of_ble_eq_true rfl) ?_
  intro p e s m args below meth c C
  revert h0
  unfold wX12_told
  have hl0 : lv_args 0 [.ref (ts_ad g 164), ts_v p1] = [(0, .ref (ts_ad g 164)), (1, ts_v p1)] := rfl
  rw [hl0]
  refine ts_aload_n C dX12_told_0 rfl 0 rfl ?_
  refine ts_iconst C dX12_told_1 0 rfl ?_
  refine tpX12_0 C q_1958 dX12_told_2 (fun M1 => ?_)
  refine ts_aload_n C dX12_told_5 rfl 0 rfl ?_
  refine tgX12_1 C q_1959 dX12_told_6 ?_
  refine ts_iload_n C dX12_told_9 rfl 1 rfl ?_
  refine ts_iald C (by decide) shG165 dX12_told_10 ?_
  exact ts_ireti C (Nat.zero_le _) (Nat.zero_le _) dX12_told_11
def wX12_spoonCount (Q : Int → ts_M → Prop) (M : ts_M) : Prop :=
  (wX12_told 0 (fun r2 M1 => Q r2 M1) M)
set_option maxRecDepth 100000 in
set_option maxHeartbeats 4000000 in
theorem mX12_spoonCount {l : Launch} {g : ts_W} (hl : l.stackTraces = false) {Q : Int → ts_M → Prop} {M : ts_M} : wX12_spoonCount Q M → ts_Con l g yX12_spoonCount cX12_spoonCount 1 (some .int) 1 0 0 [.ref (ts_ad g 164)] M (ts_Ri Q) := by
  intro h0
  refine ts_Con.of hl (by decide) (Nat.le_of_ble_eq_true rfl) ?_
  intro p e s m args below meth c C
  revert h0
  unfold wX12_spoonCount
  have hl0 : lv_args 0 [.ref (ts_ad g 164)] = [(0, .ref (ts_ad g 164))] := rfl
  rw [hl0]
  refine ts_aload_n C dX12_spoonCount_0 rfl 0 rfl ?_
  refine ts_iconst C dX12_spoonCount_1 0 rfl ?_
  refine ts_callVi C [ts_v 0] (mX12_told hl) kX12_told q_2290 (by decide) shX12 rfl rfl rfl (Nat.le_of_ble_eq_true rfl) ⟨Nat.le_of_ble_eq_true rfl, Nat.le_of_ble_eq_true rfl⟩ ⟨Nat.le_of_ble_eq_true rfl, Nat.le_of_ble_eq_true rfl⟩ dX12_spoonCount_2 (fun r2 M1 => ?_)
  exact ts_ireti C (Nat.zero_le _) (Nat.zero_le _) dX12_spoonCount_5
def wX12_tells_B27   (Q : Int → ts_M → Prop)  (z0 : Int) (M : ts_M) : Prop :=
  Q z0 M
def wX12_tells (p1 : Int) (p2 : Int) (Q : Int → ts_M → Prop) (M : ts_M) : Prop :=
  (∀ M1, M1 = ts_si M 164 0 0 → (wX12_isSpoon p1 (fun r3 M2 => ((ts_w r3 = 0 → (wX12_fails 1 (fun r5 M4 => wX12_tells_B27 Q r5 M4) M2)) ∧ (¬ (ts_w r3 = 0) → (wX12_spoon p1 p2 (fun r7 M6 => wX12_tells_B27 Q r7 M6) M2)))) M1))
set_option maxRecDepth 100000 in
set_option maxHeartbeats 4000000 in
theorem mX12_tells {l : Launch} {g : ts_W} (hl : l.stackTraces = false) {p1 : Int} {p2 : Int} {Q : Int → ts_M → Prop} {M : ts_M} : wX12_tells p1 p2 Q M → ts_Con l g yX12_tells cX12_tells 3 (some .int) 2 0 0 [.ref (ts_ad g 164), ts_v p1, ts_v p2] M (ts_Ri Q) := by
  intro h0
  refine ts_Con.of hl (by decide) (Nat.le_of_ble_eq_true rfl) ?_
  intro p e s m args below meth c C
  have H27 : ∀ (z0 : Int) (M : ts_M), wX12_tells_B27   Q z0 M → ts_V p l e (ts_rm 2 0 0) s m args below meth c g 3 0 0 (MQ below (ts_Q g (ts_Ri Q)) args s 0 0 (ts_A g)) 27 [] [ts_v z0] M := by
    intro  z0 M
    unfold wX12_tells_B27
    exact ts_ireti C (Nat.zero_le _) (Nat.zero_le _) dX12_tells_27
  revert h0
  unfold wX12_tells
  have hl0 : lv_args 0 [.ref (ts_ad g 164), ts_v p1, ts_v p2] = [(0, .ref (ts_ad g 164)), (1, ts_v p1), (2, ts_v p2)] := rfl
  rw [hl0]
  refine ts_aload_n C dX12_tells_0 rfl 0 rfl ?_
  refine ts_iconst C dX12_tells_1 0 rfl ?_
  refine tpX12_0 C q_1958 dX12_tells_2 (fun M1 => ?_)
  refine ts_aload_n C dX12_tells_5 rfl 0 rfl ?_
  refine ts_iload_n C dX12_tells_6 rfl 1 rfl ?_
  refine ts_callVi C [ts_v p1] (mX12_isSpoon hl) kX12_isSpoon q_2145 (by decide) shX12 rfl rfl rfl (Nat.le_of_ble_eq_true rfl) ⟨Nat.le_of_ble_eq_true rfl, Nat.le_of_ble_eq_true rfl⟩ ⟨Nat.le_of_ble_eq_true rfl, Nat.le_of_ble_eq_true rfl⟩ dX12_tells_7 (fun r3 M2 => ?_)
  refine ts_cm0_eq C rfl 22 dX12_tells_10 rfl ?_ ?_
  · refine ts_aload_n C dX12_tells_22 rfl 0 rfl ?_
    refine ts_iconst C dX12_tells_23 1 rfl ?_
    refine ts_callVi C [ts_v 1] (mX12_fails hl) kX12_fails q_2037 (by decide) shX12 rfl rfl rfl (Nat.le_of_ble_eq_true rfl) ⟨Nat.le_of_ble_eq_true rfl, Nat.le_of_ble_eq_true rfl⟩ ⟨Nat.le_of_ble_eq_true rfl, Nat.le_of_ble_eq_true rfl⟩ dX12_tells_24 (fun r5 M4 => ?_)
    exact ts_sub [] rfl (H27 _ _)
  · refine ts_aload_n C dX12_tells_13 rfl 0 rfl ?_
    refine ts_iload_n C dX12_tells_14 rfl 1 rfl ?_
    refine ts_iload_n C dX12_tells_15 rfl 2 rfl ?_
    refine ts_callVi C [ts_v p1, ts_v p2] (mX12_spoon hl) kX12_spoon q_2149 (by decide) shX12 rfl rfl rfl (Nat.le_of_ble_eq_true rfl) ⟨Nat.le_of_ble_eq_true rfl, Nat.le_of_ble_eq_true rfl⟩ ⟨Nat.le_of_ble_eq_true rfl, Nat.le_of_ble_eq_true rfl⟩ dX12_tells_16 (fun r7 M6 => ?_)
    refine ts_goto C 27 dX12_tells_19 rfl ?_
    exact ts_sub [] rfl (H27 _ _)
def wX12_weight (p1 : Int) (Q : Int → ts_M → Prop) (M : ts_M) : Prop :=
  (wX12_tells p1 0 (fun r2 M1 => Q r2 M1) M)
set_option maxRecDepth 100000 in
set_option maxHeartbeats 4000000 in
theorem mX12_weight {l : Launch} {g : ts_W} (hl : l.stackTraces = false) {p1 : Int} {Q : Int → ts_M → Prop} {M : ts_M} : wX12_weight p1 Q M → ts_Con l g yX12_weight cX12_weight 2 (some .int) 3 0 0 [.ref (ts_ad g 164), ts_v p1] M (ts_Ri Q) := by
  intro h0
  refine ts_Con.of hl (by decide) (Nat.le_of_ble_eq_true rfl) ?_
  intro p e s m args below meth c C
  revert h0
  unfold wX12_weight
  have hl0 : lv_args 0 [.ref (ts_ad g 164), ts_v p1] = [(0, .ref (ts_ad g 164)), (1, ts_v p1)] := rfl
  rw [hl0]
  refine ts_aload_n C dX12_weight_0 rfl 0 rfl ?_
  refine ts_iload_n C dX12_weight_1 rfl 1 rfl ?_
  refine ts_iconst C dX12_weight_2 0 rfl ?_
  refine ts_callVi C [ts_v p1, ts_v 0] (mX12_tells hl) kX12_tells q_2298 (by decide) shX12 rfl rfl rfl (Nat.le_of_ble_eq_true rfl) ⟨Nat.le_of_ble_eq_true rfl, Nat.le_of_ble_eq_true rfl⟩ ⟨Nat.le_of_ble_eq_true rfl, Nat.le_of_ble_eq_true rfl⟩ dX12_weight_3 (fun r2 M1 => ?_)
  exact ts_ireti C (Nat.zero_le _) (Nat.zero_le _) dX12_weight_6
def wX12_stance (p1 : Int) (Q : Int → ts_M → Prop) (M : ts_M) : Prop :=
  (wX12_tells p1 1 (fun r2 M1 => Q r2 M1) M)
set_option maxRecDepth 100000 in
set_option maxHeartbeats 4000000 in
theorem mX12_stance {l : Launch} {g : ts_W} (hl : l.stackTraces = false) {p1 : Int} {Q : Int → ts_M → Prop} {M : ts_M} : wX12_stance p1 Q M → ts_Con l g yX12_stance cX12_stance 2 (some .int) 3 0 0 [.ref (ts_ad g 164), ts_v p1] M (ts_Ri Q) := by
  intro h0
  refine ts_Con.of hl (by decide) (Nat.le_of_ble_eq_true rfl) ?_
  intro p e s m args below meth c C
  revert h0
  unfold wX12_stance
  have hl0 : lv_args 0 [.ref (ts_ad g 164), ts_v p1] = [(0, .ref (ts_ad g 164)), (1, ts_v p1)] := rfl
  rw [hl0]
  refine ts_aload_n C dX12_stance_0 rfl 0 rfl ?_
  refine ts_iload_n C dX12_stance_1 rfl 1 rfl ?_
  refine ts_iconst C dX12_stance_2 1 rfl ?_
  refine ts_callVi C [ts_v p1, ts_v 1] (mX12_tells hl) kX12_tells q_2298 (by decide) shX12 rfl rfl rfl (Nat.le_of_ble_eq_true rfl) ⟨Nat.le_of_ble_eq_true rfl, Nat.le_of_ble_eq_true rfl⟩ ⟨Nat.le_of_ble_eq_true rfl, Nat.le_of_ble_eq_true rfl⟩ dX12_stance_3 (fun r2 M1 => ?_)
  exact ts_ireti C (Nat.zero_le _) (Nat.zero_le _) dX12_stance_6
def wX12_sugar (p1 : Int) (Q : Int → ts_M → Prop) (M : ts_M) : Prop :=
  (wX12_tells p1 2 (fun r2 M1 => Q r2 M1) M)
set_option maxRecDepth 100000 in
set_option maxHeartbeats 4000000 in
theorem mX12_sugar {l : Launch} {g : ts_W} (hl : l.stackTraces = false) {p1 : Int} {Q : Int → ts_M → Prop} {M : ts_M} : wX12_sugar p1 Q M → ts_Con l g yX12_sugar cX12_sugar 2 (some .int) 3 0 0 [.ref (ts_ad g 164), ts_v p1] M (ts_Ri Q) := by
  intro h0
  refine ts_Con.of hl (by decide) (Nat.le_of_ble_eq_true rfl) ?_
  intro p e s m args below meth c C
  revert h0
  unfold wX12_sugar
  have hl0 : lv_args 0 [.ref (ts_ad g 164), ts_v p1] = [(0, .ref (ts_ad g 164)), (1, ts_v p1)] := rfl
  rw [hl0]
  refine ts_aload_n C dX12_sugar_0 rfl 0 rfl ?_
  refine ts_iload_n C dX12_sugar_1 rfl 1 rfl ?_
  refine ts_iconst C dX12_sugar_2 2 rfl ?_
  refine ts_callVi C [ts_v p1, ts_v 2] (mX12_tells hl) kX12_tells q_2298 (by decide) shX12 rfl rfl rfl (Nat.le_of_ble_eq_true rfl) ⟨Nat.le_of_ble_eq_true rfl, Nat.le_of_ble_eq_true rfl⟩ ⟨Nat.le_of_ble_eq_true rfl, Nat.le_of_ble_eq_true rfl⟩ dX12_sugar_3 (fun r2 M1 => ?_)
  exact ts_ireti C (Nat.zero_le _) (Nat.zero_le _) dX12_sugar_6
def wX12_speeches (p1 : Int) (Q : Int → ts_M → Prop) (M : ts_M) : Prop :=
  (wX12_tells p1 3 (fun r2 M1 => Q r2 M1) M)
set_option maxRecDepth 100000 in
set_option maxHeartbeats 4000000 in
theorem mX12_speeches {l : Launch} {g : ts_W} (hl : l.stackTraces = false) {p1 : Int} {Q : Int → ts_M → Prop} {M : ts_M} : wX12_speeches p1 Q M → ts_Con l g yX12_speeches cX12_speeches 2 (some .int) 3 0 0 [.ref (ts_ad g 164), ts_v p1] M (ts_Ri Q) := by
  intro h0
  refine ts_Con.of hl (by decide) (Nat.le_of_ble_eq_true rfl) ?_
  intro p e s m args below meth c C
  revert h0
  unfold wX12_speeches
  have hl0 : lv_args 0 [.ref (ts_ad g 164), ts_v p1] = [(0, .ref (ts_ad g 164)), (1, ts_v p1)] := rfl
  rw [hl0]
  refine ts_aload_n C dX12_speeches_0 rfl 0 rfl ?_
  refine ts_iload_n C dX12_speeches_1 rfl 1 rfl ?_
  refine ts_iconst C dX12_speeches_2 3 rfl ?_
  refine ts_callVi C [ts_v p1, ts_v 3] (mX12_tells hl) kX12_tells q_2298 (by decide) shX12 rfl rfl rfl (Nat.le_of_ble_eq_true rfl) ⟨Nat.le_of_ble_eq_true rfl, Nat.le_of_ble_eq_true rfl⟩ ⟨Nat.le_of_ble_eq_true rfl, Nat.le_of_ble_eq_true rfl⟩ dX12_speeches_3 (fun r2 M1 => ?_)
  exact ts_ireti C (Nat.zero_le _) (Nat.zero_le _) dX12_speeches_6
def wX12_isRicher_B84   (Q : Int → ts_M → Prop)  (z0 : Int) (M : ts_M) : Prop :=
  ((ts_w z0 = 0 ∨ ts_w z0 = 1) ∧ Q z0 M)
def wX12_isRicher_B35   (Q : Int → ts_M → Prop)  (z0 : Int) (M : ts_M) : Prop :=
  ((ts_w z0 = 0 ∨ ts_w z0 = 1) ∧ Q z0 M)
def wX12_isRicher (p1 : Int) (p2 : Int) (Q : Int → ts_M → Prop) (M : ts_M) : Prop :=
  (wX12_spoon p1 2 (fun r2 M1 => (wX12_spoon p2 2 (fun r4 M3 => ((ts_w r2 = ts_w r4 → (wX12_spoon p1 0 (fun r6 M5 => (wX12_spoon p2 0 (fun r8 M7 => ((ts_w r6 = ts_w r8 → ((ts_w p2 ≤ ts_w p1 → wX12_isRicher_B84 Q 0 M7) ∧ (¬ (ts_w p2 ≤ ts_w p1) → wX12_isRicher_B84 Q 1 M7))) ∧ (¬ (ts_w r6 = ts_w r8) → (wX12_spoon p1 0 (fun r10 M9 => (wX12_spoon p2 0 (fun r12 M11 => ((ts_w r10 ≤ ts_w r12 → wX12_isRicher_B84 Q 0 M11) ∧ (¬ (ts_w r10 ≤ ts_w r12) → wX12_isRicher_B84 Q 1 M11))) M9)) M7)))) M5)) M3)) ∧ (¬ (ts_w r2 = ts_w r4) → (wX12_spoon p1 2 (fun r14 M13 => (wX12_spoon p2 2 (fun r16 M15 => ((ts_w r14 ≤ ts_w r16 → wX12_isRicher_B35 Q 0 M15) ∧ (¬ (ts_w r14 ≤ ts_w r16) → wX12_isRicher_B35 Q 1 M15))) M13)) M3)))) M1)) M)
set_option maxRecDepth 100000 in
set_option maxHeartbeats 4000000 in
theorem mX12_isRicher {l : Launch} {g : ts_W} (hl : l.stackTraces = false) {p1 : Int} {p2 : Int} {Q : Int → ts_M → Prop} {M : ts_M} : wX12_isRicher p1 p2 Q M → ts_Con l g yX12_isRicher cX12_isRicher 3 (some .boolean) 1 0 0 [.ref (ts_ad g 164), ts_v p1, ts_v p2] M (ts_Ri Q) := by
  intro h0
  refine ts_Con.of hl (by decide) (Nat.le_of_ble_eq_true rfl) ?_
  intro p e s m args below meth c C
  have H84 : ∀ (z0 : Int) (M : ts_M), wX12_isRicher_B84   Q z0 M → ts_V p l e (ts_rm 1 0 0) s m args below meth c g 3 0 0 (MQ below (ts_Q g (ts_Ri Q)) args s 0 0 (ts_A g)) 84 [] [ts_v z0] M := by
    intro  z0 M
    unfold wX12_isRicher_B84
    exact ts_zreti C (Nat.zero_le _) (Nat.zero_le _) dX12_isRicher_84
  have H35 : ∀ (z0 : Int) (M : ts_M), wX12_isRicher_B35   Q z0 M → ts_V p l e (ts_rm 1 0 0) s m args below meth c g 3 0 0 (MQ below (ts_Q g (ts_Ri Q)) args s 0 0 (ts_A g)) 35 [] [ts_v z0] M := by
    intro  z0 M
    unfold wX12_isRicher_B35
    exact ts_zreti C (Nat.zero_le _) (Nat.zero_le _) dX12_isRicher_35
  revert h0
  unfold wX12_isRicher
  have hl0 : lv_args 0 [.ref (ts_ad g 164), ts_v p1, ts_v p2] = [(0, .ref (ts_ad g 164)), (1, ts_v p1), (2, ts_v p2)] := rfl
  rw [hl0]
  refine ts_aload_n C dX12_isRicher_0 rfl 0 rfl ?_
  refine ts_iload_n C dX12_isRicher_1 rfl 1 rfl ?_
  refine ts_iconst C dX12_isRicher_2 2 rfl ?_
  refine ts_callVi C [ts_v p1, ts_v 2] (mX12_spoon hl) kX12_spoon q_2149 (by decide) shX12 rfl rfl rfl (Nat.le_of_ble_eq_true rfl) ⟨Nat.le_of_ble_eq_true rfl, Nat.le_of_ble_eq_true rfl⟩ ⟨Nat.le_of_ble_eq_true rfl, Nat.le_of_ble_eq_true rfl⟩ dX12_isRicher_3 (fun r2 M1 => ?_)
  refine ts_aload_n C dX12_isRicher_6 rfl 0 rfl ?_
  refine ts_iload_n C dX12_isRicher_7 rfl 2 rfl ?_
  refine ts_iconst C dX12_isRicher_8 2 rfl ?_
  refine ts_callVi C [ts_v p2, ts_v 2] (mX12_spoon hl) kX12_spoon q_2149 (by decide) shX12 rfl rfl rfl (Nat.le_of_ble_eq_true rfl) ⟨Nat.le_of_ble_eq_true rfl, Nat.le_of_ble_eq_true rfl⟩ ⟨Nat.le_of_ble_eq_true rfl, Nat.le_of_ble_eq_true rfl⟩ dX12_isRicher_9 (fun r4 M3 => ?_)
  refine ts_cmp_eq C rfl rfl 36 dX12_isRicher_12 rfl ?_ ?_
  · refine ts_aload_n C dX12_isRicher_36 rfl 0 rfl ?_
    refine ts_iload_n C dX12_isRicher_37 rfl 1 rfl ?_
    refine ts_iconst C dX12_isRicher_38 0 rfl ?_
    refine ts_callVi C [ts_v p1, ts_v 0] (mX12_spoon hl) kX12_spoon q_2149 (by decide) shX12 rfl rfl rfl (Nat.le_of_ble_eq_true rfl) ⟨Nat.le_of_ble_eq_true rfl, Nat.le_of_ble_eq_true rfl⟩ ⟨Nat.le_of_ble_eq_true rfl, Nat.le_of_ble_eq_true rfl⟩ dX12_isRicher_39 (fun r6 M5 => ?_)
    refine ts_aload_n C dX12_isRicher_42 rfl 0 rfl ?_
    refine ts_iload_n C dX12_isRicher_43 rfl 2 rfl ?_
    refine ts_iconst C dX12_isRicher_44 0 rfl ?_
    refine ts_callVi C [ts_v p2, ts_v 0] (mX12_spoon hl) kX12_spoon q_2149 (by decide) shX12 rfl rfl rfl (Nat.le_of_ble_eq_true rfl) ⟨Nat.le_of_ble_eq_true rfl, Nat.le_of_ble_eq_true rfl⟩ ⟨Nat.le_of_ble_eq_true rfl, Nat.le_of_ble_eq_true rfl⟩ dX12_isRicher_45 (fun r8 M7 => ?_)
    refine ts_cmp_eq C rfl rfl 74 dX12_isRicher_48 rfl ?_ ?_
    · refine ts_iload_n C dX12_isRicher_74 rfl 1 rfl ?_
      refine ts_iload_n C dX12_isRicher_75 rfl 2 rfl ?_
      refine ts_cmp_ge C rfl rfl 83 dX12_isRicher_76 rfl ?_ ?_
      · refine ts_iconst C dX12_isRicher_83 0 rfl ?_
        exact ts_sub [] rfl (H84 _ _)
      · refine ts_iconst C dX12_isRicher_79 1 rfl ?_
        refine ts_goto C 84 dX12_isRicher_80 rfl ?_
        exact ts_sub [] rfl (H84 _ _)
    · refine ts_aload_n C dX12_isRicher_51 rfl 0 rfl ?_
      refine ts_iload_n C dX12_isRicher_52 rfl 1 rfl ?_
      refine ts_iconst C dX12_isRicher_53 0 rfl ?_
      refine ts_callVi C [ts_v p1, ts_v 0] (mX12_spoon hl) kX12_spoon q_2149 (by decide) shX12 rfl rfl rfl (Nat.le_of_ble_eq_true rfl) ⟨Nat.le_of_ble_eq_true rfl, Nat.le_of_ble_eq_true rfl⟩ ⟨Nat.le_of_ble_eq_true rfl, Nat.le_of_ble_eq_true rfl⟩ dX12_isRicher_54 (fun r10 M9 => ?_)
      refine ts_aload_n C dX12_isRicher_57 rfl 0 rfl ?_
      refine ts_iload_n C dX12_isRicher_58 rfl 2 rfl ?_
      refine ts_iconst C dX12_isRicher_59 0 rfl ?_
      refine ts_callVi C [ts_v p2, ts_v 0] (mX12_spoon hl) kX12_spoon q_2149 (by decide) shX12 rfl rfl rfl (Nat.le_of_ble_eq_true rfl) ⟨Nat.le_of_ble_eq_true rfl, Nat.le_of_ble_eq_true rfl⟩ ⟨Nat.le_of_ble_eq_true rfl, Nat.le_of_ble_eq_true rfl⟩ dX12_isRicher_60 (fun r12 M11 => ?_)
      refine ts_cmp_le C rfl rfl 70 dX12_isRicher_63 rfl ?_ ?_
      · refine ts_iconst C dX12_isRicher_70 0 rfl ?_
        refine ts_goto C 84 dX12_isRicher_71 rfl ?_
        exact ts_sub [] rfl (H84 _ _)
      · refine ts_iconst C dX12_isRicher_66 1 rfl ?_
        refine ts_goto C 84 dX12_isRicher_67 rfl ?_
        exact ts_sub [] rfl (H84 _ _)
  · refine ts_aload_n C dX12_isRicher_15 rfl 0 rfl ?_
    refine ts_iload_n C dX12_isRicher_16 rfl 1 rfl ?_
    refine ts_iconst C dX12_isRicher_17 2 rfl ?_
    refine ts_callVi C [ts_v p1, ts_v 2] (mX12_spoon hl) kX12_spoon q_2149 (by decide) shX12 rfl rfl rfl (Nat.le_of_ble_eq_true rfl) ⟨Nat.le_of_ble_eq_true rfl, Nat.le_of_ble_eq_true rfl⟩ ⟨Nat.le_of_ble_eq_true rfl, Nat.le_of_ble_eq_true rfl⟩ dX12_isRicher_18 (fun r14 M13 => ?_)
    refine ts_aload_n C dX12_isRicher_21 rfl 0 rfl ?_
    refine ts_iload_n C dX12_isRicher_22 rfl 2 rfl ?_
    refine ts_iconst C dX12_isRicher_23 2 rfl ?_
    refine ts_callVi C [ts_v p2, ts_v 2] (mX12_spoon hl) kX12_spoon q_2149 (by decide) shX12 rfl rfl rfl (Nat.le_of_ble_eq_true rfl) ⟨Nat.le_of_ble_eq_true rfl, Nat.le_of_ble_eq_true rfl⟩ ⟨Nat.le_of_ble_eq_true rfl, Nat.le_of_ble_eq_true rfl⟩ dX12_isRicher_24 (fun r16 M15 => ?_)
    refine ts_cmp_le C rfl rfl 34 dX12_isRicher_27 rfl ?_ ?_
    · refine ts_iconst C dX12_isRicher_34 0 rfl ?_
      exact ts_sub [] rfl (H35 _ _)
    · refine ts_iconst C dX12_isRicher_30 1 rfl ?_
      refine ts_goto C 35 dX12_isRicher_31 rfl ?_
      exact ts_sub [] rfl (H35 _ _)
