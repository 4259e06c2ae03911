def wX10_admits_B47 (b : Nat)  (Q : Int → ts_M → Prop)  (z0 : Int) (M : ts_M) : Prop :=
  ((ts_w z0 = 0 ∨ ts_w z0 = 1) ∧ Q z0 M)
def wX10_admits_B46 (b : Nat)  (Q : Int → ts_M → Prop)   (M : ts_M) : Prop :=
  wX10_admits_B47 b Q 0 M
def wX10_admits_B42 (b : Nat)  (Q : Int → ts_M → Prop)   (M : ts_M) : Prop :=
  wX10_admits_B47 b Q 1 M
def wX10_admits_B21 (b : Nat)  (Q : Int → ts_M → Prop)  (z0 : Int) (M : ts_M) : Prop :=
  ((ts_w z0 = 0 ∨ ts_w z0 = 1) ∧ Q z0 M)
def wX10_admits_B16 (b : Nat)  (Q : Int → ts_M → Prop)   (M : ts_M) : Prop :=
  wX10_admits_B21 b Q 1 M
def wX10_admits (b : Nat) (p1 : Int) (Q : Int → ts_M → Prop) (M : ts_M) : Prop :=
  ((¬ (ts_w (M.1 (b + 9) 1) = 0) → (wX10_topRank b (fun r2 M1 => ((ts_w p1 ≤ ts_w r2 → wX10_admits_B46 b Q M1) ∧ (¬ (ts_w p1 ≤ ts_w r2) → ((¬ (ts_w p1 = 1) → wX10_admits_B42 b Q M1) ∧ (ts_w p1 = 1 → ((¬ (ts_w (M1.1 (b + 9) 4) = 0) → wX10_admits_B46 b Q M1) ∧ (ts_w (M1.1 (b + 9) 4) = 0 → wX10_admits_B42 b Q M1))))))) M)) ∧ (ts_w (M.1 (b + 9) 1) = 0 → ((ts_w p1 = 0 → wX10_admits_B16 b Q M) ∧ (¬ (ts_w p1 = 0) → ((¬ (ts_w p1 = 4) → wX10_admits_B21 b Q 0 M) ∧ (ts_w p1 = 4 → wX10_admits_B16 b Q M))))))
set_option maxRecDepth 100000 in
set_option maxHeartbeats 4000000 in
theorem mX10_admits {l : Launch} {g : ts_W} (hl : l.stackTraces = false) {b : Nat} (hb : ts_isS b) {p1 : Int} {Q : Int → ts_M → Prop} {M : ts_M} : wX10_admits b p1 Q M → ts_Con l g yX10_admits cX10_admits 2 (some .boolean) 2 0 0 [.ref (ts_ad g (b + 9)), ts_v p1] M (ts_Ri Q) := by
  intro h0
  refine ts_Con.of hl (by decide) (Nat.le_of_ble_eq_true rfl) ?_
  intro p e s m args below meth c C
  have H47 : ∀ (z0 : Int) (M : ts_M), wX10_admits_B47 b  Q z0 M → ts_V p l e (ts_rm 2 0 0) s m args below meth c g 2 0 0 (MQ below (ts_Q g (ts_Ri Q)) args s 0 0 (ts_A g)) 47 [] [ts_v z0] M := by
    intro  z0 M
    unfold wX10_admits_B47
    exact ts_zreti C (Nat.zero_le _) (Nat.zero_le _) dX10_admits_47
  have H46 : ∀  (M : ts_M), wX10_admits_B46 b  Q  M → ts_V p l e (ts_rm 2 0 0) s m args below meth c g 2 0 0 (MQ below (ts_Q g (ts_Ri Q)) args s 0 0 (ts_A g)) 46 [] [] M := by
    intro   M
    unfold wX10_admits_B46
    refine ts_iconst C dX10_admits_46 0 rfl ?_
    exact ts_sub [] rfl (H47 _ _)
  have H42 : ∀  (M : ts_M), wX10_admits_B42 b  Q  M → ts_V p l e (ts_rm 2 0 0) s m args below meth c g 2 0 0 (MQ below (ts_Q g (ts_Ri Q)) args s 0 0 (ts_A g)) 42 [] [] M := by
    intro   M
    unfold wX10_admits_B42
    refine ts_iconst C dX10_admits_42 1 rfl ?_
    refine ts_goto C 47 dX10_admits_43 rfl ?_
    exact ts_sub [] rfl (H47 _ _)
  have H21 : ∀ (z0 : Int) (M : ts_M), wX10_admits_B21 b  Q z0 M → ts_V p l e (ts_rm 2 0 0) s m args below meth c g 2 0 0 (MQ below (ts_Q g (ts_Ri Q)) args s 0 0 (ts_A g)) 21 [] [ts_v z0] M := by
    intro  z0 M
    unfold wX10_admits_B21
    exact ts_zreti C (Nat.zero_le _) (Nat.zero_le _) dX10_admits_21
  have H16 : ∀  (M : ts_M), wX10_admits_B16 b  Q  M → ts_V p l e (ts_rm 2 0 0) s m args below meth c g 2 0 0 (MQ below (ts_Q g (ts_Ri Q)) args s 0 0 (ts_A g)) 16 [] [] M := by
    intro   M
    unfold wX10_admits_B16
    refine ts_iconst C dX10_admits_16 1 rfl ?_
    refine ts_goto C 21 dX10_admits_17 rfl ?_
    exact ts_sub [] rfl (H21 _ _)
  revert h0
  unfold wX10_admits
  have hl0 : lv_args 0 [.ref (ts_ad g (b + 9)), ts_v p1] = [(0, .ref (ts_ad g (b + 9))), (1, ts_v p1)] := rfl
  rw [hl0]
  refine ts_aload_n C dX10_admits_0 rfl 0 rfl ?_
  refine tgX10_1 hb C q_247 dX10_admits_1 ?_
  refine ts_cm0_ne C rfl 22 dX10_admits_4 rfl ?_ ?_
  · refine ts_iload_n C dX10_admits_22 rfl 1 rfl ?_
    refine ts_aload_n C dX10_admits_23 rfl 0 rfl ?_
    refine ts_callVi C [] (mX10_topRank hl hb) kX10_topRank q_1142 (ts_lt hb 9 (by decide)) (shX10 hb) rfl rfl rfl (Nat.le_of_ble_eq_true rfl) ⟨Nat.le_of_ble_eq_true rfl, Nat.le_of_ble_eq_true rfl⟩ ⟨Nat.le_of_ble_eq_true rfl, Nat.le_of_ble_eq_true rfl⟩ dX10_admits_24 (fun r2 M1 => ?_)
    refine ts_cmp_le C rfl rfl 46 dX10_admits_27 rfl ?_ ?_
    · exact ts_sub [] rfl (H46 _)
    · refine ts_iload_n C dX10_admits_30 rfl 1 rfl ?_
      refine ts_iconst C dX10_admits_31 1 rfl ?_
      refine ts_cmp_ne C rfl tw_1 42 dX10_admits_32 rfl ?_ ?_
      · exact ts_sub [] rfl (H42 _)
      · refine ts_aload_n C dX10_admits_35 rfl 0 rfl ?_
        refine tgX10_4 hb C q_256 dX10_admits_36 ?_
        refine ts_cm0_ne C rfl 46 dX10_admits_39 rfl ?_ ?_
        · exact ts_sub [] rfl (H46 _)
        · exact ts_sub [] rfl (H42 _)
  · refine ts_iload_n C dX10_admits_7 rfl 1 rfl ?_
    refine ts_cm0_eq C rfl 16 dX10_admits_8 rfl ?_ ?_
    · exact ts_sub [] rfl (H16 _)
    · refine ts_iload_n C dX10_admits_11 rfl 1 rfl ?_
      refine ts_iconst C dX10_admits_12 4 rfl ?_
      refine ts_cmp_ne C rfl tw_4 20 dX10_admits_13 rfl ?_ ?_
      · refine ts_iconst C dX10_admits_20 0 rfl ?_
        exact ts_sub [] rfl (H21 _ _)
      · exact ts_sub [] rfl (H16 _)
def wX10_put_B28 (b : Nat)  (Q : Int → ts_M → Prop)   (M : ts_M) : Prop :=
  Q (M.1 (b + 9) 1) M
def wX10_put (b : Nat) (p1 : Int) (Q : Int → ts_M → Prop) (M : ts_M) : Prop :=
  ((5 ≤ ts_w (M.1 (b + 9) 1) → wX10_put_B28 b Q M) ∧ (¬ (5 ≤ ts_w (M.1 (b + 9) 1)) → ((0 ≤ ts_w (M.1 (b + 9) 1) ∧ ts_w (M.1 (b + 9) 1) < ((5 : Nat) : Int)) ∧ ∀ M1, M1 = ts_si M (b + 10) (ts_w (M.1 (b + 9) 1)) p1 → (∀ M2, M2 = ts_si M1 (b + 9) 1 ((M1.1 (b + 9) 1) + 1) → wX10_put_B28 b Q M2))))
set_option maxRecDepth 100000 in
set_option maxHeartbeats 4000000 in
theorem mX10_put {l : Launch} {g : ts_W} (hl : l.stackTraces = false) {b : Nat} (hb : ts_isS b) {p1 : Int} {Q : Int → ts_M → Prop} {M : ts_M} : wX10_put b p1 Q M → ts_Con l g yX10_put cX10_put 2 (some .int) 0 0 0 [.ref (ts_ad g (b + 9)), ts_v p1] M (ts_Ri Q) := by
  intro h0
  refine ts_Con.of hl (by decide) (Nat.le_of_ble_eq_true rfl) ?_
  intro p e s m args below meth c C
  have H28 : ∀  (M : ts_M), wX10_put_B28 b  Q  M → ts_V p l e (ts_rm 0 0 0) s m args below meth c g 2 0 0 (MQ below (ts_Q g (ts_Ri Q)) args s 0 0 (ts_A g)) 28 [(0, .ref (ts_ad g (b + 9)))] [] M := by
    intro   M
    unfold wX10_put_B28
    refine ts_aload_n C dX10_put_28 rfl 0 rfl ?_
    refine tgX10_1 hb C q_247 dX10_put_29 ?_
    exact ts_ireti C (Nat.zero_le _) (Nat.zero_le _) dX10_put_32
  revert h0
  unfold wX10_put
  have hl0 : lv_args 0 [.ref (ts_ad g (b + 9)), ts_v p1] = [(0, .ref (ts_ad g (b + 9))), (1, ts_v p1)] := rfl
  rw [hl0]
  refine ts_aload_n C dX10_put_0 rfl 0 rfl ?_
  refine tgX10_1 hb C q_247 dX10_put_1 ?_
  refine ts_iconst C dX10_put_4 5 rfl ?_
  refine ts_cmp_ge C rfl tw_5 28 dX10_put_5 rfl ?_ ?_
  · exact ts_sub [0] rfl (H28 _)
  · refine ts_aload_n C dX10_put_8 rfl 0 rfl ?_
    refine tgX10_0 hb C q_246 dX10_put_9 ?_
    refine ts_aload_n C dX10_put_12 rfl 0 rfl ?_
    refine tgX10_1 hb C q_247 dX10_put_13 ?_
    refine ts_iload_n C dX10_put_16 rfl 1 rfl ?_
    refine ts_iast C (ts_lt hb 10 (by decide)) (shS10 hb) dX10_put_17 (fun M1 => ?_)
    refine ts_aload_n C dX10_put_18 rfl 0 rfl ?_
    refine ts_dup C dX10_put_19 rfl ?_
    refine tgX10_1 hb C q_247 dX10_put_20 ?_
    refine ts_iconst C dX10_put_23 1 rfl ?_
    refine ts_iadd C dX10_put_24 ?_
    refine tpX10_1 hb C q_247 dX10_put_25 (fun M2 => ?_)
    exact ts_sub [0] rfl (H28 _)
def wX10_takeTop_B17 (b : Nat)  (Q : ts_M → Prop)   (M : ts_M) : Prop :=
  Q M
def wX10_takeTop (b : Nat) (Q : ts_M → Prop) (M : ts_M) : Prop :=
  ((ts_w (M.1 (b + 9) 1) ≤ 0 → wX10_takeTop_B17 b Q M) ∧ (¬ (ts_w (M.1 (b + 9) 1) ≤ 0) → (∀ M1, M1 = ts_si M (b + 9) 1 ((M.1 (b + 9) 1) - 1) → wX10_takeTop_B17 b Q M1)))
set_option maxRecDepth 100000 in
set_option maxHeartbeats 4000000 in
theorem mX10_takeTop {l : Launch} {g : ts_W} (hl : l.stackTraces = false) {b : Nat} (hb : ts_isS b) {Q : ts_M → Prop} {M : ts_M} : wX10_takeTop b Q M → ts_Con l g yX10_takeTop cX10_takeTop 1 none 0 0 0 [.ref (ts_ad g (b + 9))] M (ts_Rv Q) := by
  intro h0
  refine ts_Con.of hl (by decide) (Nat.le_of_ble_eq_true rfl) ?_
  intro p e s m args below meth c C
  have H17 : ∀  (M : ts_M), wX10_takeTop_B17 b  Q  M → ts_V p l e (ts_rm 0 0 0) s m args below meth c g 1 0 0 (MQ below (ts_Q g (ts_Rv Q)) args s 0 0 (ts_A g)) 17 [] [] M := by
    intro   M
    unfold wX10_takeTop_B17
    exact ts_vreti C (Nat.zero_le _) (Nat.zero_le _) dX10_takeTop_17
  revert h0
  unfold wX10_takeTop
  have hl0 : lv_args 0 [.ref (ts_ad g (b + 9))] = [(0, .ref (ts_ad g (b + 9)))] := rfl
  rw [hl0]
  refine ts_aload_n C dX10_takeTop_0 rfl 0 rfl ?_
  refine tgX10_1 hb C q_247 dX10_takeTop_1 ?_
  refine ts_cm0_le C rfl 17 dX10_takeTop_4 rfl ?_ ?_
  · exact ts_sub [] rfl (H17 _)
  · refine ts_aload_n C dX10_takeTop_7 rfl 0 rfl ?_
    refine ts_dup C dX10_takeTop_8 rfl ?_
    refine tgX10_1 hb C q_247 dX10_takeTop_9 ?_
    refine ts_iconst C dX10_takeTop_12 1 rfl ?_
    refine ts_isub C dX10_takeTop_13 ?_
    refine tpX10_1 hb C q_247 dX10_takeTop_14 (fun M1 => ?_)
    exact ts_sub [] rfl (H17 _)
def wX10_clear (b : Nat) (Q : ts_M → Prop) (M : ts_M) : Prop :=
  (∀ M1, M1 = ts_si M (b + 9) 1 0 → Q M1)
set_option maxRecDepth 100000 in
set_option maxHeartbeats 4000000 in
theorem mX10_clear {l : Launch} {g : ts_W} (hl : l.stackTraces = false) {b : Nat} (hb : ts_isS b) {Q : ts_M → Prop} {M : ts_M} : wX10_clear b Q M → ts_Con l g yX10_clear cX10_clear 1 none 0 0 0 [.ref (ts_ad g (b + 9))] M (ts_Rv Q) := by
  intro h0
  refine ts_Con.of hl (by decide) (Nat.le_of_ble_eq_true rfl) ?_
  intro p e s m args below meth c C
  revert h0
  unfold wX10_clear
  have hl0 : lv_args 0 [.ref (ts_ad g (b + 9))] = [(0, .ref (ts_ad g (b + 9)))] := rfl
  rw [hl0]
  refine ts_aload_n C dX10_clear_0 rfl 0 rfl ?_
  refine ts_iconst C dX10_clear_1 0 rfl ?_
  refine tpX10_1 hb C q_247 dX10_clear_2 (fun M1 => ?_)
  exact ts_vreti C (Nat.zero_le _) (Nat.zero_le _) dX10_clear_5
def wJ9_min_7cf53_B10   (Q : Int → ts_M → Prop)  (z0 : Int) (M : ts_M) : Prop :=
  Q z0 M
def wJ9_min_7cf53 (p1 : Int) (p2 : Int) (Q : Int → ts_M → Prop) (M : ts_M) : Prop :=
  ((ts_w p2 < ts_w p1 → wJ9_min_7cf53_B10 Q p2 M) ∧ (¬ (ts_w p2 < ts_w p1) → wJ9_min_7cf53_B10 Q p1 M))
set_option maxRecDepth 100000 in
set_option maxHeartbeats 4000000 in
theorem mJ9_min_7cf53 {l : Launch} {g : ts_W} (hl : l.stackTraces = false) {p1 : Int} {p2 : Int} {Q : Int → ts_M → Prop} {M : ts_M} : wJ9_min_7cf53 p1 p2 Q M → ts_Con l g yJ9_min_7cf53 cJ9_min_7cf53 2 (some .int) 0 0 0 [ts_v p1, ts_v p2] M (ts_Ri Q) := by
  intro h0
  refine ts_Con.ofF hl (by decide +kernel) (Nat.le_of_ble_eq_true rfl) ?_
  intro p e s m args below meth c C
  have H10 : ∀ (z0 : Int) (M : ts_M), wJ9_min_7cf53_B10   Q z0 M → ts_V p l e (ts_rm 0 0 0) s m args below meth c g 2 0 0 (MQ below (ts_Q g (ts_Ri Q)) args s 0 0 (ts_A g)) 10 [] [ts_v z0] M := by
    intro  z0 M
    unfold wJ9_min_7cf53_B10
    exact ts_ireti C (Nat.zero_le _) (Nat.zero_le _) dJ9_min_7cf53_10
  revert h0
  unfold wJ9_min_7cf53
  have hl0 : lv_args 0 [ts_v p1, ts_v p2] = [(0, ts_v p1), (1, ts_v p2)] := rfl
  rw [hl0]
  refine ts_iload_n C dJ9_min_7cf53_0 rfl 0 rfl ?_
  refine ts_iload_n C dJ9_min_7cf53_1 rfl 1 rfl ?_
  refine ts_cmp_gt C rfl rfl 9 dJ9_min_7cf53_2 rfl ?_ ?_
  · refine ts_iload_n C dJ9_min_7cf53_9 rfl 1 rfl ?_
    exact ts_sub [] rfl (H10 _ _)
  · refine ts_iload_n C dJ9_min_7cf53_5 rfl 0 rfl ?_
    refine ts_goto C 10 dJ9_min_7cf53_6 rfl ?_
    exact ts_sub [] rfl (H10 _ _)
def wJ9_floorMod_7cf53_B18   (Q : Int → ts_M → Prop)  (y2 : Int) (M : ts_M) : Prop :=
  Q y2 M
def wJ9_floorMod_7cf53 (p1 : Int) (p2 : Int) (Q : Int → ts_M → Prop) (M : ts_M) : Prop :=
  (¬ ts_w p2 = 0 ∧ (∀ x1 : Int, x1 = ts_rem p1 p2 → ((0 ≤ ts_w (ts_xor p1 p2) → wJ9_floorMod_7cf53_B18 Q x1 M) ∧ (¬ (0 ≤ ts_w (ts_xor p1 p2)) → ((ts_w x1 = 0 → wJ9_floorMod_7cf53_B18 Q x1 M) ∧ (¬ (ts_w x1 = 0) → Q (x1 + p2) M))))))
set_option maxRecDepth 100000 in
set_option maxHeartbeats 4000000 in
theorem mJ9_floorMod_7cf53 {l : Launch} {g : ts_W} (hl : l.stackTraces = false) {p1 : Int} {p2 : Int} {Q : Int → ts_M → Prop} {M : ts_M} : wJ9_floorMod_7cf53 p1 p2 Q M → ts_Con l g yJ9_floorMod_7cf53 cJ9_floorMod_7cf53 3 (some .int) 0 0 0 [ts_v p1, ts_v p2] M (ts_Ri Q) := by
  intro h0
  refine ts_Con.ofF hl (by decide +kernel) (Nat.le_of_ble_eq_true rfl) ?_
  intro p e s m args below meth c C
  have H18 : ∀ (y2 : Int) (M : ts_M), wJ9_floorMod_7cf53_B18   Q y2 M → ts_V p l e (ts_rm 0 0 0) s m args below meth c g 3 0 0 (MQ below (ts_Q g (ts_Ri Q)) args s 0 0 (ts_A g)) 18 [(2, ts_v y2)] [] M := by
    intro  y2 M
    unfold wJ9_floorMod_7cf53_B18
    refine ts_iload_n C dJ9_floorMod_7cf53_18 rfl 0 rfl ?_
    exact ts_ireti C (Nat.zero_le _) (Nat.zero_le _) dJ9_floorMod_7cf53_19
  revert h0
  unfold wJ9_floorMod_7cf53
  have hl0 : lv_args 0 [ts_v p1, ts_v p2] = [(0, ts_v p1), (1, ts_v p2)] := rfl
  rw [hl0]
  refine ts_iload_n C dJ9_floorMod_7cf53_0 rfl 0 rfl ?_
  refine ts_iload_n C dJ9_floorMod_7cf53_1 rfl 1 rfl ?_
  refine ts_irem C dJ9_floorMod_7cf53_2 ?_
  refine ts_istore_n C dJ9_floorMod_7cf53_3 rfl (by decide) (lv' := fun x1 => [(2, ts_v x1), (0, ts_v p1), (1, ts_v p2)]) (fun _ => rfl) (fun x1 => ?_)
  refine ts_iload_n C dJ9_floorMod_7cf53_4 rfl 1 rfl ?_
  refine ts_iload_n C dJ9_floorMod_7cf53_5 rfl 2 rfl ?_
  refine ts_ixor C dJ9_floorMod_7cf53_6 ?_
  refine ts_cm0_ge C rfl 18 dJ9_floorMod_7cf53_7 rfl ?_ ?_
  · exact ts_sub [0] rfl (H18 _ _)
  · refine ts_iload_n C dJ9_floorMod_7cf53_10 rfl 0 rfl ?_
    refine ts_cm0_eq C rfl 18 dJ9_floorMod_7cf53_11 rfl ?_ ?_
    · exact ts_sub [0] rfl (H18 _ _)
    · refine ts_iload_n C dJ9_floorMod_7cf53_14 rfl 0 rfl ?_
      refine ts_iload_n C dJ9_floorMod_7cf53_15 rfl 2 rfl ?_
      refine ts_iadd C dJ9_floorMod_7cf53_16 ?_
      exact ts_ireti C (Nat.zero_le _) (Nat.zero_le _) dJ9_floorMod_7cf53_17
def wJ9_max_7cf53_B10   (Q : Int → ts_M → Prop)  (z0 : Int) (M : ts_M) : Prop :=
  Q z0 M
def wJ9_max_7cf53 (p1 : Int) (p2 : Int) (Q : Int → ts_M → Prop) (M : ts_M) : Prop :=
  ((ts_w p1 < ts_w p2 → wJ9_max_7cf53_B10 Q p2 M) ∧ (¬ (ts_w p1 < ts_w p2) → wJ9_max_7cf53_B10 Q p1 M))
set_option maxRecDepth 100000 in
set_option maxHeartbeats 4000000 in
theorem mJ9_max_7cf53 {l : Launch} {g : ts_W} (hl : l.stackTraces = false) {p1 : Int} {p2 : Int} {Q : Int → ts_M → Prop} {M : ts_M} : wJ9_max_7cf53 p1 p2 Q M → ts_Con l g yJ9_max_7cf53 cJ9_max_7cf53 2 (some .int) 0 0 0 [ts_v p1, ts_v p2] M (ts_Ri Q) := by
  intro h0
  refine ts_Con.ofF hl (by decide +kernel) (Nat.le_of_ble_eq_true rfl) ?_
  intro p e s m args below meth c C
  have H10 : ∀ (z0 : Int) (M : ts_M), wJ9_max_7cf53_B10   Q z0 M → ts_V p l e (ts_rm 0 0 0) s m args below meth c g 2 0 0 (MQ below (ts_Q g (ts_Ri Q)) args s 0 0 (ts_A g)) 10 [] [ts_v z0] M := by
    intro  z0 M
    unfold wJ9_max_7cf53_B10
    exact ts_ireti C (Nat.zero_le _) (Nat.zero_le _) dJ9_max_7cf53_10
  revert h0
  unfold wJ9_max_7cf53
  have hl0 : lv_args 0 [ts_v p1, ts_v p2] = [(0, ts_v p1), (1, ts_v p2)] := rfl
  rw [hl0]
  refine ts_iload_n C dJ9_max_7cf53_0 rfl 0 rfl ?_
  refine ts_iload_n C dJ9_max_7cf53_1 rfl 1 rfl ?_
  refine ts_cmp_lt C rfl rfl 9 dJ9_max_7cf53_2 rfl ?_ ?_
  · refine ts_iload_n C dJ9_max_7cf53_9 rfl 1 rfl ?_
    exact ts_sub [] rfl (H10 _ _)
  · refine ts_iload_n C dJ9_max_7cf53_5 rfl 0 rfl ?_
    refine ts_goto C 10 dJ9_max_7cf53_6 rfl ?_
    exact ts_sub [] rfl (H10 _ _)
def wJ13_bitCount_95d88 (p1 : Int64) (Q : Int → ts_M → Prop) (M : ts_M) : Prop :=
  (∀ x1 : Int64, x1 = p1 - ((ts_lushr p1 1) &&& 6148914691236517205) → (∀ x2 : Int64, x2 = (x1 &&& 3689348814741910323) + ((ts_lushr x1 2) &&& 3689348814741910323) → (∀ x3 : Int64, x3 = (x2 + (ts_lushr x2 4)) &&& 1085102592571150095 → (∀ x4 : Int64, x4 = x3 + (ts_lushr x3 8) → (∀ x5 : Int64, x5 = x4 + (ts_lushr x4 16) → (∀ x6 : Int64, x6 = x5 + (ts_lushr x5 32) → Q (ts_and (ts_l2i x6) 127) M))))))
set_option maxRecDepth 100000 in
set_option maxHeartbeats 4000000 in
theorem mJ13_bitCount_95d88 {l : Launch} {g : ts_W} (hl : l.stackTraces = false) {p1 : Int64} {Q : Int → ts_M → Prop} {M : ts_M} : wJ13_bitCount_95d88 p1 Q M → ts_Con l g yJ13_bitCount_95d88 cJ13_bitCount_95d88 2 (some .int) 0 0 0 [.long p1] M (ts_Ri Q) := by
  intro h0
  refine ts_Con.of hl (by decide) (Nat.le_of_ble_eq_true rfl) ?_
  intro p e s m args below meth c C
  revert h0
  unfold wJ13_bitCount_95d88
  have hl0 : lv_args 0 [.long p1] = [(0, .long p1)] := rfl
  rw [hl0]
  refine ts_lload_n C dJ13_bitCount_95d88_0 rfl 0 rfl ?_
  refine ts_lload_n C dJ13_bitCount_95d88_1 rfl 0 rfl ?_
  refine ts_iconst C dJ13_bitCount_95d88_2 1 rfl ?_
  refine ts_lushr0 C dJ13_bitCount_95d88_3 ?_
  refine ts_ldc2 C 6148914691236517205 dJ13_bitCount_95d88_4 q_534 ?_
  refine ts_land C dJ13_bitCount_95d88_7 ?_
  refine ts_lsub C dJ13_bitCount_95d88_8 ?_
  refine ts_lstore_n C dJ13_bitCount_95d88_9 rfl (by decide) (lv' := fun x1 => [(0, .long x1)]) (fun _ => rfl) (fun x1 => ?_)
  refine ts_lload_n C dJ13_bitCount_95d88_10 rfl 0 rfl ?_
  refine ts_ldc2 C 3689348814741910323 dJ13_bitCount_95d88_11 q_535 ?_
  refine ts_land C dJ13_bitCount_95d88_14 ?_
  refine ts_lload_n C dJ13_bitCount_95d88_15 rfl 0 rfl ?_
  refine ts_iconst C dJ13_bitCount_95d88_16 2 rfl ?_
  refine ts_lushr0 C dJ13_bitCount_95d88_17 ?_
  refine ts_ldc2 C 3689348814741910323 dJ13_bitCount_95d88_18 q_535 ?_
  refine ts_land C dJ13_bitCount_95d88_21 ?_
  refine ts_ladd C dJ13_bitCount_95d88_22 ?_
  refine ts_lstore_n C dJ13_bitCount_95d88_23 rfl (by decide) (lv' := fun x2 => [(0, .long x2)]) (fun _ => rfl) (fun x2 => ?_)
  refine ts_lload_n C dJ13_bitCount_95d88_24 rfl 0 rfl ?_
  refine ts_lload_n C dJ13_bitCount_95d88_25 rfl 0 rfl ?_
  refine ts_iconst C dJ13_bitCount_95d88_26 4 rfl ?_
  refine ts_lushr0 C dJ13_bitCount_95d88_27 ?_
  refine ts_ladd C dJ13_bitCount_95d88_28 ?_
  refine ts_ldc2 C 1085102592571150095 dJ13_bitCount_95d88_29 q_536 ?_
  refine ts_land C dJ13_bitCount_95d88_32 ?_
  refine ts_lstore_n C dJ13_bitCount_95d88_33 rfl (by decide) (lv' := fun x3 => [(0, .long x3)]) (fun _ => rfl) (fun x3 => ?_)
  refine ts_lload_n C dJ13_bitCount_95d88_34 rfl 0 rfl ?_
  refine ts_lload_n C dJ13_bitCount_95d88_35 rfl 0 rfl ?_
  refine ts_bipush C dJ13_bitCount_95d88_36 8 tb_8 ?_
  refine ts_lushr0 C dJ13_bitCount_95d88_38 ?_
  refine ts_ladd C dJ13_bitCount_95d88_39 ?_
  refine ts_lstore_n C dJ13_bitCount_95d88_40 rfl (by decide) (lv' := fun x4 => [(0, .long x4)]) (fun _ => rfl) (fun x4 => ?_)
  refine ts_lload_n C dJ13_bitCount_95d88_41 rfl 0 rfl ?_
  refine ts_lload_n C dJ13_bitCount_95d88_42 rfl 0 rfl ?_
  refine ts_bipush C dJ13_bitCount_95d88_43 16 tb_16 ?_
  refine ts_lushr0 C dJ13_bitCount_95d88_45 ?_
  refine ts_ladd C dJ13_bitCount_95d88_46 ?_
  refine ts_lstore_n C dJ13_bitCount_95d88_47 rfl (by decide) (lv' := fun x5 => [(0, .long x5)]) (fun _ => rfl) (fun x5 => ?_)
  refine ts_lload_n C dJ13_bitCount_95d88_48 rfl 0 rfl ?_
  refine ts_lload_n C dJ13_bitCount_95d88_49 rfl 0 rfl ?_
  refine ts_bipush C dJ13_bitCount_95d88_50 32 tb_32 ?_
  refine ts_lushr0 C dJ13_bitCount_95d88_52 ?_
  refine ts_ladd C dJ13_bitCount_95d88_53 ?_
  refine ts_lstore_n C dJ13_bitCount_95d88_54 rfl (by decide) (lv' := fun x6 => [(0, .long x6)]) (fun _ => rfl) (fun x6 => ?_)
  refine ts_lload_n C dJ13_bitCount_95d88_55 rfl 0 rfl ?_
  refine ts_l2i0 C dJ13_bitCount_95d88_56 ?_
  refine ts_bipush C dJ13_bitCount_95d88_57 127 tb_127 ?_
  refine ts_iand C dJ13_bitCount_95d88_59 ?_
  exact ts_ireti C (Nat.zero_le _) (Nat.zero_le _) dJ13_bitCount_95d88_60
def wJ9_abs_0f7a4_B10   (Q : Int → ts_M → Prop)  (z0 : Int) (M : ts_M) : Prop :=
  Q z0 M
def wJ9_abs_0f7a4 (p1 : Int) (Q : Int → ts_M → Prop) (M : ts_M) : Prop :=
  ((0 ≤ ts_w p1 → wJ9_abs_0f7a4_B10 Q p1 M) ∧ (¬ (0 ≤ ts_w p1) → wJ9_abs_0f7a4_B10 Q (-p1) M))
set_option maxRecDepth 100000 in
set_option maxHeartbeats 4000000 in
theorem mJ9_abs_0f7a4 {l : Launch} {g : ts_W} (hl : l.stackTraces = false) {p1 : Int} {Q : Int → ts_M → Prop} {M : ts_M} : wJ9_abs_0f7a4 p1 Q M → ts_Con l g yJ9_abs_0f7a4 cJ9_abs_0f7a4 1 (some .int) 0 0 0 [ts_v p1] M (ts_Ri Q) := by
  intro h0
  refine ts_Con.ofF hl (by decide +kernel) (Nat.le_of_ble_eq_true rfl) ?_
  intro p e s m args below meth c C
  have H10 : ∀ (z0 : Int) (M : ts_M), wJ9_abs_0f7a4_B10   Q z0 M → ts_V p l e (ts_rm 0 0 0) s m args below meth c g 1 0 0 (MQ below (ts_Q g (ts_Ri Q)) args s 0 0 (ts_A g)) 10 [] [ts_v z0] M := by
    intro  z0 M
    unfold wJ9_abs_0f7a4_B10
    exact ts_ireti C (Nat.zero_le _) (Nat.zero_le _) dJ9_abs_0f7a4_10
  revert h0
  unfold wJ9_abs_0f7a4
  have hl0 : lv_args 0 [ts_v p1] = [(0, ts_v p1)] := rfl
  rw [hl0]
  refine ts_iload_n C dJ9_abs_0f7a4_0 rfl 0 rfl ?_
  refine ts_cm0_ge C rfl 9 dJ9_abs_0f7a4_1 rfl ?_ ?_
  · refine ts_iload_n C dJ9_abs_0f7a4_9 rfl 0 rfl ?_
    exact ts_sub [] rfl (H10 _ _)
  · refine ts_iload_n C dJ9_abs_0f7a4_4 rfl 0 rfl ?_
    refine ts_ineg C dJ9_abs_0f7a4_5 ?_
    refine ts_goto C 10 dJ9_abs_0f7a4_6 rfl ?_
    exact ts_sub [] rfl (H10 _ _)
def wX11_wetCells (Q : Int → ts_M → Prop) (M : ts_M) : Prop :=
  (wJ13_bitCount_95d88 (M.2.1 11 0) (fun r2 M1 => Q r2 M1) M)
set_option maxRecDepth 100000 in
set_option maxHeartbeats 4000000 in
theorem mX11_wetCells {l : Launch} {g : ts_W} (hl : l.stackTraces = false) {Q : Int → ts_M → Prop} {M : ts_M} : wX11_wetCells Q M → ts_Con l g yX11_wetCells cX11_wetCells 1 (some .int) 1 0 0 [.ref (ts_ad g 154)] M (ts_Ri Q) := by
  intro h0
  refine ts_Con.of hl (by decide) (Nat.le_of_ble_eq_true rfl) ?_
  intro p e s m args below meth c C
  revert h0
  unfold wX11_wetCells
  have hl0 : lv_args 0 [.ref (ts_ad g 154)] = [(0, .ref (ts_ad g 154))] := rfl
  rw [hl0]
  refine ts_aload_n C dX11_wetCells_0 rfl 0 rfl ?_
  refine tgX11_0 C q_428 dX11_wetCells_1 ?_
  refine tgX9_3 ts_iS0 C q_298 dX11_wetCells_4 ?_
  refine tgX1_0 ts_iS0 C q_278 dX11_wetCells_7 ?_
  refine ts_callSi C [.long (M.2.1 11 0)] (mJ13_bitCount_95d88 hl) kJ13_bitCount_95d88 q_531 rfl rfl (Nat.le_of_ble_eq_true rfl) ⟨Nat.le_of_ble_eq_true rfl, Nat.le_of_ble_eq_true rfl⟩ ⟨Nat.le_of_ble_eq_true rfl, Nat.le_of_ble_eq_true rfl⟩ dX11_wetCells_10 (fun r2 M1 => ?_)
  exact ts_ireti C (Nat.zero_le _) (Nat.zero_le _) dX11_wetCells_13
def wX11_puddleCount (Q : Int → ts_M → Prop) (M : ts_M) : Prop :=
  (wX1_countPuddles 0 (fun r2 M1 => Q r2 M1) M)
set_option maxRecDepth 100000 in
set_option maxHeartbeats 4000000 in
theorem mX11_puddleCount {l : Launch} {g : ts_W} (hl : l.stackTraces = false) {Q : Int → ts_M → Prop} {M : ts_M} : wX11_puddleCount Q M → ts_Con l g yX11_puddleCount cX11_puddleCount 1 (some .int) 3 0 0 [.ref (ts_ad g 154)] M (ts_Ri Q) := by
  intro h0
  refine ts_Con.of hl (by decide) (Nat.le_of_ble_eq_true rfl) ?_
  intro p e s m args below meth c C
  revert h0
  unfold wX11_puddleCount
  have hl0 : lv_args 0 [.ref (ts_ad g 154)] = [(0, .ref (ts_ad g 154))] := rfl
  rw [hl0]
  refine ts_aload_n C dX11_puddleCount_0 rfl 0 rfl ?_
  refine tgX11_0 C q_428 dX11_puddleCount_1 ?_
  refine tgX9_3 ts_iS0 C q_298 dX11_puddleCount_4 ?_
  refine ts_callVi C [] (mX1_countPuddles hl ts_iS0) kX1_countPuddles q_566 (ts_lt ts_iS0 11 (by decide)) (shX1 ts_iS0) rfl rfl rfl (Nat.le_of_ble_eq_true rfl) ⟨Nat.le_of_ble_eq_true rfl, Nat.le_of_ble_eq_true rfl⟩ ⟨Nat.le_of_ble_eq_true rfl, Nat.le_of_ble_eq_true rfl⟩ dX11_puddleCount_7 (fun r2 M1 => ?_)
  exact ts_ireti C (Nat.zero_le _) (Nat.zero_le _) dX11_puddleCount_10
def wX11_sugarByAccounts (Q : Int → ts_M → Prop) (M : ts_M) : Prop :=
  (wX8_accountedLumps 0 (fun r2 M1 => Q r2 M1) M)
set_option maxRecDepth 100000 in
set_option maxHeartbeats 4000000 in
theorem mX11_sugarByAccounts {l : Launch} {g : ts_W} (hl : l.stackTraces = false) {Q : Int → ts_M → Prop} {M : ts_M} : wX11_sugarByAccounts Q M → ts_Con l g yX11_sugarByAccounts cX11_sugarByAccounts 1 (some .int) 1 0 0 [.ref (ts_ad g 154)] M (ts_Ri Q) := by
  intro h0
  refine ts_Con.of hl (by decide) (Nat.le_of_ble_eq_true rfl) ?_
  intro p e s m args below meth c C
  revert h0
  unfold wX11_sugarByAccounts
  have hl0 : lv_args 0 [.ref (ts_ad g 154)] = [(0, .ref (ts_ad g 154))] := rfl
  rw [hl0]
  refine ts_aload_n C dX11_sugarByAccounts_0 rfl 0 rfl ?_
  refine tgX11_0 C q_428 dX11_sugarByAccounts_1 ?_
  refine tgX9_0 ts_iS0 C q_291 dX11_sugarByAccounts_4 ?_
  refine ts_callVi C [] (mX8_accountedLumps hl ts_iS0) kX8_accountedLumps q_594 (ts_lt ts_iS0 1 (by decide)) (shX8 ts_iS0) rfl rfl rfl (Nat.le_of_ble_eq_true rfl) ⟨Nat.le_of_ble_eq_true rfl, Nat.le_of_ble_eq_true rfl⟩ ⟨Nat.le_of_ble_eq_true rfl, Nat.le_of_ble_eq_true rfl⟩ dX11_sugarByAccounts_7 (fun r2 M1 => ?_)
  exact ts_ireti C (Nat.zero_le _) (Nat.zero_le _) dX11_sugarByAccounts_10
def wX12_marksPuddle_L115   (Q : Int → ts_M → Prop) (k115 : Int → Int → ts_M → Prop) (y3 : Int) (y4 : Int) (M : ts_M) : Prop :=
  ((64 ≤ ts_w y4 → Q y3 M) ∧ (¬ (64 ≤ ts_w y4) → ((0 ≤ ts_w y4 ∧ ts_w y4 < ((64 : Nat) : Int)) ∧ (∀ x5 : Int, x5 = y3 + (M.1 169 (ts_w y4)) → (∀ x6 : Int, x6 = y4 + 1 → k115 x5 x6 M)))))
def wX12_marksPuddle_B101  (k45 : Int → ts_M → Prop) (k53 : Int → Int → ts_M → Prop) (Q : Int → ts_M → Prop)  (y2 : Int) (y3 : Int) (M : ts_M) : Prop :=
  (∀ x9 : Int, x9 = y3 + 1 → k53 y2 x9 M)
def wX12_marksPuddle_L53  (k45 : Int → ts_M → Prop) (Q : Int → ts_M → Prop) (k53 : Int → Int → ts_M → Prop) (y2 : Int) (y3 : Int) (M : ts_M) : Prop :=
  ((64 ≤ ts_w y3 → k45 y2 M) ∧ (¬ (64 ≤ ts_w y3) → ((0 ≤ ts_w y3 ∧ ts_w y3 < ((64 : Nat) : Int)) ∧ ((ts_w (M.1 169 (ts_w y3)) = 1 → wX12_marksPuddle_B101 k45 k53 Q y2 y3 M) ∧ (¬ (ts_w (M.1 169 (ts_w y3)) = 1) → ((0 ≤ ts_w (82 + y3) ∧ ts_w (82 + y3) < ((146 : Nat) : Int)) ∧ ((ts_w (M.1 165 (ts_w (82 + y3))) = 0 → wX12_marksPuddle_B101 k45 k53 Q y2 y3 M) ∧ (¬ (ts_w (M.1 165 (ts_w (82 + y3))) = 0) → (wX12_isBesideMarked y3 (fun r11 M10 => ((¬ (ts_w r11 = 0) → ((0 ≤ ts_w y3 ∧ ts_w y3 < ((64 : Nat) : Int)) ∧ ∀ M12, M12 = ts_si M10 169 (ts_w y3) 1 → (∀ x13 : Int, x13 = 1 → wX12_marksPuddle_B101 k45 k53 Q x13 y3 M12))) ∧ (ts_w r11 = 0 → wX12_marksPuddle_B101 k45 k53 Q y2 y3 M10))) M)))))))))
def wX12_marksPuddle_L45   (Q : Int → ts_M → Prop) (k45 : Int → ts_M → Prop) (y2 : Int) (M : ts_M) : Prop :=
  ((ts_w y2 = 0 → (∀ x3 : Int, x3 = 0 → (∀ x4 : Int, x4 = 0 → ∃ n, ts_lp2 (wX12_marksPuddle_L115 Q) n x3 x4 M))) ∧ (¬ (ts_w y2 = 0) → (∀ x7 : Int, x7 = 0 → (∀ x8 : Int, x8 = 0 → ∃ n, ts_lp2 (wX12_marksPuddle_L53 k45 Q) n x7 x8 M))))
def wX12_marksPuddle_B36  (k2 : Int → Int → ts_M → Prop) (Q : Int → ts_M → Prop)  (y1 : Int) (y2 : Int) (z0 : Int) (z1 : Int) (M : ts_M) : Prop :=
  ((0 ≤ ts_w z1 ∧ ts_w z1 < ((64 : Nat) : Int)) ∧ ∀ M14, M14 = ts_si M 169 (ts_w z1) z0 → (∀ x15 : Int, x15 = y2 + 1 → k2 y1 x15 M14))
def wX12_marksPuddle_B35  (k2 : Int → Int → ts_M → Prop) (Q : Int → ts_M → Prop)  (y1 : Int) (y2 : Int) (z0 : Int) (M : ts_M) : Prop :=
  wX12_marksPuddle_B36 k2 Q y1 y2 0 z0 M
def wX12_marksPuddle_L2   (Q : Int → ts_M → Prop) (k2 : Int → Int → ts_M → Prop) (y1 : Int) (y2 : Int) (M : ts_M) : Prop :=
  ((64 ≤ ts_w y2 → (∀ x2 : Int, x2 = 1 → ∃ n, ts_lp1 (wX12_marksPuddle_L45 Q) n x2 M)) ∧ (¬ (64 ≤ ts_w y2) → ((¬ (ts_w y2 = ts_w y1) → wX12_marksPuddle_B35 k2 Q y1 y2 y2 M) ∧ (ts_w y2 = ts_w y1 → ((0 ≤ ts_w (82 + y2) ∧ ts_w (82 + y2) < ((146 : Nat) : Int)) ∧ ((¬ (ts_w (M.1 165 (ts_w (82 + y2))) = 1) → wX12_marksPuddle_B35 k2 Q y1 y2 y2 M) ∧ (ts_w (M.1 165 (ts_w (82 + y2))) = 1 → wX12_marksPuddle_B36 k2 Q y1 y2 1 y2 M)))))))
def wX12_marksPuddle (p1 : Int) (Q : Int → ts_M → Prop) (M : ts_M) : Prop :=
  (∀ x1 : Int, x1 = 0 → ∃ n, ts_lp2 (wX12_marksPuddle_L2 Q) n p1 x1 M)
set_option maxRecDepth 100000 in
set_option maxHeartbeats 4000000 in
theorem mX12_marksPuddle {l : Launch} {g : ts_W} (hl : l.stackTraces = false) {p1 : Int} {Q : Int → ts_M → Prop} {M : ts_M} : wX12_marksPuddle p1 Q M → ts_Con l g yX12_marksPuddle cX12_marksPuddle 5 (some .int) 1 0 0 [.ref (ts_ad g 164), ts_v p1] M (ts_Ri Q) := by
  intro h0
  refine ts_Con.of hl (by decide) (Nat.le_of_ble_eq_true rfl) ?_
  intro p e s m args below meth c C
  have H115 : ∀ (n : Nat) (y3 : Int) (y4 : Int) (M : ts_M), ts_lp2 (wX12_marksPuddle_L115   Q) n y3 y4 M → ts_V p l e (ts_rm 1 0 0) s m args below meth c g 5 0 0 (MQ below (ts_Q g (ts_Ri Q)) args s 0 0 (ts_A g)) 115 [(0, .ref (ts_ad g 164)), (3, ts_v y3), (4, ts_v y4)] [] M := by
    refine ts_lpr2 (V := fun (y3 : Int) (y4 : Int) (M : ts_M) => ts_V p l e (ts_rm 1 0 0) s m args below meth c g 5 0 0 (MQ below (ts_Q g (ts_Ri Q)) args s 0 0 (ts_A g)) 115 [(0, .ref (ts_ad g 164)), (3, ts_v y3), (4, ts_v y4)] [] M) ?_
    intro k115 hk115 y3 y4 M
    unfold wX12_marksPuddle_L115
    refine ts_iload C dX12_marksPuddle_115 2 rfl ?_
    refine ts_bipush C dX12_marksPuddle_117 64 tb_64 ?_
    refine ts_cmp_ge C rfl tw_64 138 dX12_marksPuddle_119 rfl ?_ ?_
    · refine ts_iload_n C dX12_marksPuddle_138 rfl 1 rfl ?_
      exact ts_ireti C (Nat.zero_le _) (Nat.zero_le _) dX12_marksPuddle_139
    · refine ts_iload_n C dX12_marksPuddle_122 rfl 1 rfl ?_
      refine ts_aload_n C dX12_marksPuddle_123 rfl 0 rfl ?_
      refine tgX12_8 C q_1966 dX12_marksPuddle_124 ?_
      refine ts_iload C dX12_marksPuddle_127 2 rfl ?_
      refine ts_iald C (by decide) shG169 dX12_marksPuddle_129 ?_
      refine ts_iadd C dX12_marksPuddle_130 ?_
      refine ts_istore_n C dX12_marksPuddle_131 rfl (by decide) (lv' := fun x5 => [(3, ts_v x5), (0, .ref (ts_ad g 164)), (4, ts_v y4)]) (fun _ => rfl) (fun x5 => ?_)
      refine ts_iinc C dX12_marksPuddle_132 2 rfl (by decide) (lv' := fun x6 => [(4, ts_v x6), (3, ts_v x5), (0, .ref (ts_ad g 164))]) (fun _ => rfl) (fun x6 => ?_)
      refine ts_goto C 115 dX12_marksPuddle_135 rfl ?_
      exact ts_sub [2, 1, 0] rfl (hk115 _ _ _)
  have H101 : ∀ (k45 : Int → ts_M → Prop) (hk45 : ∀ (y2 : Int) (M : ts_M), k45 y2 M → ts_V p l e (ts_rm 1 0 0) s m args below meth c g 5 0 0 (MQ below (ts_Q g (ts_Ri Q)) args s 0 0 (ts_A g)) 45 [(0, .ref (ts_ad g 164)), (2, ts_v y2)] [] M) (k53 : Int → Int → ts_M → Prop) (hk53 : ∀ (y2 : Int) (y3 : Int) (M : ts_M), k53 y2 y3 M → ts_V p l e (ts_rm 1 0 0) s m args below meth c g 5 0 0 (MQ below (ts_Q g (ts_Ri Q)) args s 0 0 (ts_A g)) 53 [(0, .ref (ts_ad g 164)), (2, ts_v y2), (3, ts_v y3)] [] M) (y2 : Int) (y3 : Int) (M : ts_M), wX12_marksPuddle_B101  k45 k53 Q y2 y3 M → ts_V p l e (ts_rm 1 0 0) s m args below meth c g 5 0 0 (MQ below (ts_Q g (ts_Ri Q)) args s 0 0 (ts_A g)) 101 [(0, .ref (ts_ad g 164)), (2, ts_v y2), (3, ts_v y3)] [] M := by
    intro k45 hk45 k53 hk53 y2 y3 M
    unfold wX12_marksPuddle_B101
    refine ts_iinc C dX12_marksPuddle_101 2 rfl (by decide) (lv' := fun x9 => [(3, ts_v x9), (0, .ref (ts_ad g 164)), (2, ts_v y2)]) (fun _ => rfl) (fun x9 => ?_)
    refine ts_goto C 53 dX12_marksPuddle_104 rfl ?_
    exact ts_sub [1, 2, 0] rfl (hk53 _ _ _)
  have H53 : ∀ (k45 : Int → ts_M → Prop) (hk45 : ∀ (y2 : Int) (M : ts_M), k45 y2 M → ts_V p l e (ts_rm 1 0 0) s m args below meth c g 5 0 0 (MQ below (ts_Q g (ts_Ri Q)) args s 0 0 (ts_A g)) 45 [(0, .ref (ts_ad g 164)), (2, ts_v y2)] [] M) (n : Nat) (y2 : Int) (y3 : Int) (M : ts_M), ts_lp2 (wX12_marksPuddle_L53  k45 Q) n y2 y3 M → ts_V p l e (ts_rm 1 0 0) s m args below meth c g 5 0 0 (MQ below (ts_Q g (ts_Ri Q)) args s 0 0 (ts_A g)) 53 [(0, .ref (ts_ad g 164)), (2, ts_v y2), (3, ts_v y3)] [] M := by
    intro k45 hk45
    refine ts_lpr2 (V := fun (y2 : Int) (y3 : Int) (M : ts_M) => ts_V p l e (ts_rm 1 0 0) s m args below meth c g 5 0 0 (MQ below (ts_Q g (ts_Ri Q)) args s 0 0 (ts_A g)) 53 [(0, .ref (ts_ad g 164)), (2, ts_v y2), (3, ts_v y3)] [] M) ?_
    intro k53 hk53 y2 y3 M
    unfold wX12_marksPuddle_L53
    refine ts_iload_n C dX12_marksPuddle_53 rfl 2 rfl ?_
    refine ts_bipush C dX12_marksPuddle_54 64 tb_64 ?_
    refine ts_cmp_ge C rfl tw_64 107 dX12_marksPuddle_56 rfl ?_ ?_
    · refine ts_goto C 45 dX12_marksPuddle_107 rfl ?_
      exact ts_sub [0, 1] rfl (hk45 _ _)
    · refine ts_aload_n C dX12_marksPuddle_59 rfl 0 rfl ?_
      refine tgX12_8 C q_1966 dX12_marksPuddle_60 ?_
      refine ts_iload_n C dX12_marksPuddle_63 rfl 2 rfl ?_
      refine ts_iald C (by decide) shG169 dX12_marksPuddle_64 ?_
      refine ts_iconst C dX12_marksPuddle_65 1 rfl ?_
      refine ts_cmp_eq C rfl tw_1 101 dX12_marksPuddle_66 rfl ?_ ?_
      · exact ts_sub [0, 1, 2] rfl (H101 k45 hk45 k53 hk53 _ _ _)
      · refine ts_aload_n C dX12_marksPuddle_69 rfl 0 rfl ?_
        refine tgX12_1 C q_1959 dX12_marksPuddle_70 ?_
        refine ts_bipush C dX12_marksPuddle_73 82 tb_82 ?_
        refine ts_iload_n C dX12_marksPuddle_75 rfl 2 rfl ?_
        refine ts_iadd C dX12_marksPuddle_76 ?_
        refine ts_iald C (by decide) shG165 dX12_marksPuddle_77 ?_
        refine ts_cm0_eq C rfl 101 dX12_marksPuddle_78 rfl ?_ ?_
        · exact ts_sub [0, 1, 2] rfl (H101 k45 hk45 k53 hk53 _ _ _)
        · refine ts_aload_n C dX12_marksPuddle_81 rfl 0 rfl ?_
          refine ts_iload_n C dX12_marksPuddle_82 rfl 2 rfl ?_
          refine ts_callVi C [ts_v y3] (mX12_isBesideMarked hl) kX12_isBesideMarked q_2254 (by decide) shX12 rfl rfl rfl (Nat.le_of_ble_eq_true rfl) ⟨Nat.le_of_ble_eq_true rfl, Nat.le_of_ble_eq_true rfl⟩ ⟨Nat.le_of_ble_eq_true rfl, Nat.le_of_ble_eq_true rfl⟩ dX12_marksPuddle_83 (fun r11 M10 => ?_)
          refine ts_cm0_ne C rfl 92 dX12_marksPuddle_86 rfl ?_ ?_
          · refine ts_aload_n C dX12_marksPuddle_92 rfl 0 rfl ?_
            refine tgX12_8 C q_1966 dX12_marksPuddle_93 ?_
            refine ts_iload_n C dX12_marksPuddle_96 rfl 2 rfl ?_
            refine ts_iconst C dX12_marksPuddle_97 1 rfl ?_
            refine ts_iast C (by decide) shG169 dX12_marksPuddle_98 (fun M12 => ?_)
            refine ts_iconst C dX12_marksPuddle_99 1 rfl ?_
            refine ts_istore_n C dX12_marksPuddle_100 rfl (by decide) (lv' := fun x13 => [(2, ts_v x13), (0, .ref (ts_ad g 164)), (3, ts_v y3)]) (fun _ => rfl) (fun x13 => ?_)
            exact ts_sub [1, 0, 2] rfl (H101 k45 hk45 k53 hk53 _ _ _)
          · refine ts_goto C 101 dX12_marksPuddle_89 rfl ?_
            exact ts_sub [0, 1, 2] rfl (H101 k45 hk45 k53 hk53 _ _ _)
  have H45 : ∀ (n : Nat) (y2 : Int) (M : ts_M), ts_lp1 (wX12_marksPuddle_L45   Q) n y2 M → ts_V p l e (ts_rm 1 0 0) s m args below meth c g 5 0 0 (MQ below (ts_Q g (ts_Ri Q)) args s 0 0 (ts_A g)) 45 [(0, .ref (ts_ad g 164)), (2, ts_v y2)] [] M := by
    refine ts_lpr1 (V := fun (y2 : Int) (M : ts_M) => ts_V p l e (ts_rm 1 0 0) s m args below meth c g 5 0 0 (MQ below (ts_Q g (ts_Ri Q)) args s 0 0 (ts_A g)) 45 [(0, .ref (ts_ad g 164)), (2, ts_v y2)] [] M) ?_
    intro k45 hk45 y2 M
    unfold wX12_marksPuddle_L45
    refine ts_iload_n C dX12_marksPuddle_45 rfl 1 rfl ?_
    refine ts_cm0_eq C rfl 110 dX12_marksPuddle_46 rfl ?_ ?_
    · refine ts_iconst C dX12_marksPuddle_110 0 rfl ?_
      refine ts_istore_n C dX12_marksPuddle_111 rfl (by decide) (lv' := fun x3 => [(3, ts_v x3), (0, .ref (ts_ad g 164)), (2, ts_v y2)]) (fun _ => rfl) (fun x3 => ?_)
      refine ts_iconst C dX12_marksPuddle_112 0 rfl ?_
      refine ts_istore C dX12_marksPuddle_113 (by decide) (lv' := fun x4 => [(4, ts_v x4), (3, ts_v x3), (0, .ref (ts_ad g 164)), (2, ts_v y2)]) (fun _ => rfl) (fun x4 => ?_)
      rintro ⟨n, hn⟩
      exact ts_sub [2, 1, 0] rfl (H115 n _ _ _) hn
    · refine ts_iconst C dX12_marksPuddle_49 0 rfl ?_
      refine ts_istore_n C dX12_marksPuddle_50 rfl (by decide) (lv' := fun x7 => [(2, ts_v x7), (0, .ref (ts_ad g 164))]) (fun _ => rfl) (fun x7 => ?_)
      refine ts_iconst C dX12_marksPuddle_51 0 rfl ?_
      refine ts_istore_n C dX12_marksPuddle_52 rfl (by decide) (lv' := fun x8 => [(3, ts_v x8), (2, ts_v x7), (0, .ref (ts_ad g 164))]) (fun _ => rfl) (fun x8 => ?_)
      rintro ⟨n, hn⟩
      exact ts_sub [2, 1, 0] rfl (H53 k45 hk45 n _ _ _) hn
  have H36 : ∀ (k2 : Int → Int → ts_M → Prop) (hk2 : ∀ (y1 : Int) (y2 : Int) (M : ts_M), k2 y1 y2 M → ts_V p l e (ts_rm 1 0 0) s m args below meth c g 5 0 0 (MQ below (ts_Q g (ts_Ri Q)) args s 0 0 (ts_A g)) 2 [(0, .ref (ts_ad g 164)), (1, ts_v y1), (2, ts_v y2)] [] M) (y1 : Int) (y2 : Int) (z0 : Int) (z1 : Int) (M : ts_M), wX12_marksPuddle_B36  k2 Q y1 y2 z0 z1 M → ts_V p l e (ts_rm 1 0 0) s m args below meth c g 5 0 0 (MQ below (ts_Q g (ts_Ri Q)) args s 0 0 (ts_A g)) 36 [(0, .ref (ts_ad g 164)), (1, ts_v y1), (2, ts_v y2)] [ts_v z0, ts_v z1, .ref (ts_ad g 169)] M := by
    intro k2 hk2 y1 y2 z0 z1 M
    unfold wX12_marksPuddle_B36
    refine ts_iast C (by decide) shG169 dX12_marksPuddle_36 (fun M14 => ?_)
    refine ts_iinc C dX12_marksPuddle_37 2 rfl (by decide) (lv' := fun x15 => [(2, ts_v x15), (0, .ref (ts_ad g 164)), (1, ts_v y1)]) (fun _ => rfl) (fun x15 => ?_)
    refine ts_goto C 2 dX12_marksPuddle_40 rfl ?_
    exact ts_sub [1, 2, 0] rfl (hk2 _ _ _)
  have H35 : ∀ (k2 : Int → Int → ts_M → Prop) (hk2 : ∀ (y1 : Int) (y2 : Int) (M : ts_M), k2 y1 y2 M → ts_V p l e (ts_rm 1 0 0) s m args below meth c g 5 0 0 (MQ below (ts_Q g (ts_Ri Q)) args s 0 0 (ts_A g)) 2 [(0, .ref (ts_ad g 164)), (1, ts_v y1), (2, ts_v y2)] [] M) (y1 : Int) (y2 : Int) (z0 : Int) (M : ts_M), wX12_marksPuddle_B35  k2 Q y1 y2 z0 M → ts_V p l e (ts_rm 1 0 0) s m args below meth c g 5 0 0 (MQ below (ts_Q g (ts_Ri Q)) args s 0 0 (ts_A g)) 35 [(0, .ref (ts_ad g 164)), (1, ts_v y1), (2, ts_v y2)] [ts_v z0, .ref (ts_ad g 169)] M := by
    intro k2 hk2 y1 y2 z0 M
    unfold wX12_marksPuddle_B35
    refine ts_iconst C dX12_marksPuddle_35 0 rfl ?_
    exact ts_sub [0, 1, 2] rfl (H36 k2 hk2 _ _ _ _ _)
  have H2 : ∀ (n : Nat) (y1 : Int) (y2 : Int) (M : ts_M), ts_lp2 (wX12_marksPuddle_L2   Q) n y1 y2 M → ts_V p l e (ts_rm 1 0 0) s m args below meth c g 5 0 0 (MQ below (ts_Q g (ts_Ri Q)) args s 0 0 (ts_A g)) 2 [(0, .ref (ts_ad g 164)), (1, ts_v y1), (2, ts_v y2)] [] M := by
    refine ts_lpr2 (V := fun (y1 : Int) (y2 : Int) (M : ts_M) => ts_V p l e (ts_rm 1 0 0) s m args below meth c g 5 0 0 (MQ below (ts_Q g (ts_Ri Q)) args s 0 0 (ts_A g)) 2 [(0, .ref (ts_ad g 164)), (1, ts_v y1), (2, ts_v y2)] [] M) ?_
    intro k2 hk2 y1 y2 M
    unfold wX12_marksPuddle_L2
    refine ts_iload_n C dX12_marksPuddle_2 rfl 2 rfl ?_
    refine ts_bipush C dX12_marksPuddle_3 64 tb_64 ?_
    refine ts_cmp_ge C rfl tw_64 43 dX12_marksPuddle_5 rfl ?_ ?_
    · refine ts_iconst C dX12_marksPuddle_43 1 rfl ?_
      refine ts_istore_n C dX12_marksPuddle_44 rfl (by decide) (lv' := fun x2 => [(2, ts_v x2), (0, .ref (ts_ad g 164)), (1, ts_v y1)]) (fun _ => rfl) (fun x2 => ?_)
      rintro ⟨n, hn⟩
      exact ts_sub [1, 0] rfl (H45 n _ _) hn
    · refine ts_aload_n C dX12_marksPuddle_8 rfl 0 rfl ?_
      refine tgX12_8 C q_1966 dX12_marksPuddle_9 ?_
      refine ts_iload_n C dX12_marksPuddle_12 rfl 2 rfl ?_
      refine ts_iload_n C dX12_marksPuddle_13 rfl 2 rfl ?_
      refine ts_iload_n C dX12_marksPuddle_14 rfl 1 rfl ?_
      refine ts_cmp_ne C rfl rfl 35 dX12_marksPuddle_15 rfl ?_ ?_
      · exact ts_sub [0, 1, 2] rfl (H35 k2 hk2 _ _ _ _)
      · refine ts_aload_n C dX12_marksPuddle_18 rfl 0 rfl ?_
        refine tgX12_1 C q_1959 dX12_marksPuddle_19 ?_
        refine ts_bipush C dX12_marksPuddle_22 82 tb_82 ?_
        refine ts_iload_n C dX12_marksPuddle_24 rfl 2 rfl ?_
        refine ts_iadd C dX12_marksPuddle_25 ?_
        refine ts_iald C (by decide) shG165 dX12_marksPuddle_26 ?_
        refine ts_iconst C dX12_marksPuddle_27 1 rfl ?_
        refine ts_cmp_ne C rfl tw_1 35 dX12_marksPuddle_28 rfl ?_ ?_
        · exact ts_sub [0, 1, 2] rfl (H35 k2 hk2 _ _ _ _)
        · refine ts_iconst C dX12_marksPuddle_31 1 rfl ?_
          refine ts_goto C 36 dX12_marksPuddle_32 rfl ?_
          exact ts_sub [0, 1, 2] rfl (H36 k2 hk2 _ _ _ _ _)
  revert h0
  unfold wX12_marksPuddle
  have hl0 : lv_args 0 [.ref (ts_ad g 164), ts_v p1] = [(0, .ref (ts_ad g 164)), (1, ts_v p1)] := rfl
  rw [hl0]
  refine ts_iconst C dX12_marksPuddle_0 0 rfl ?_
  refine ts_istore_n C dX12_marksPuddle_1 rfl (by decide) (lv' := fun x1 => [(2, ts_v x1), (0, .ref (ts_ad g 164)), (1, ts_v p1)]) (fun _ => rfl) (fun x1 => ?_)
  rintro ⟨n, hn⟩
  exact ts_sub [1, 2, 0] rfl (H2 n _ _ _) hn
def wX12_largest_B26  (k4 : Int → Int → ts_M → Prop) (Q : Int → ts_M → Prop)  (y2 : Int) (z0 : Int) (M : ts_M) : Prop :=
  (∀ x6 : Int, x6 = z0 → (∀ x7 : Int, x7 = y2 + 1 → k4 x6 x7 M))
def wX12_largest_L4   (Q : Int → ts_M → Prop) (k4 : Int → Int → ts_M → Prop) (y1 : Int) (y2 : Int) (M : ts_M) : Prop :=
  ((64 ≤ ts_w y2 → Q y1 M) ∧ (¬ (64 ≤ ts_w y2) → (wX12_marksPuddle y2 (fun r4 M3 => (∀ x5 : Int, x5 = r4 → ((ts_w x5 ≤ ts_w y1 → wX12_largest_B26 k4 Q y2 y1 M3) ∧ (¬ (ts_w x5 ≤ ts_w y1) → wX12_largest_B26 k4 Q y2 x5 M3)))) M)))
def wX12_largest (Q : Int → ts_M → Prop) (M : ts_M) : Prop :=
  (∀ x1 : Int, x1 = 0 → (∀ x2 : Int, x2 = 0 → ∃ n, ts_lp2 (wX12_largest_L4 Q) n x1 x2 M))
set_option maxRecDepth 100000 in
set_option maxHeartbeats 4000000 in
theorem mX12_largest {l : Launch} {g : ts_W} (hl : l.stackTraces = false) {Q : Int → ts_M → Prop} {M : ts_M} : wX12_largest Q M → ts_Con l g yX12_largest cX12_largest 4 (some .int) 2 0 0 [.ref (ts_ad g 164)] M (ts_Ri Q) := by
  intro h0
  refine ts_Con.of hl (by decide) (Nat.le_of_ble_eq_true rfl) ?_
  intro p e s m args below meth c C
  have H26 : ∀ (k4 : Int → Int → ts_M → Prop) (hk4 : ∀ (y1 : Int) (y2 : Int) (M : ts_M), k4 y1 y2 M → ts_V p l e (ts_rm 2 0 0) s m args below meth c g 4 0 0 (MQ below (ts_Q g (ts_Ri Q)) args s 0 0 (ts_A g)) 4 [(0, .ref (ts_ad g 164)), (1, ts_v y1), (2, ts_v y2)] [] M) (y2 : Int) (z0 : Int) (M : ts_M), wX12_largest_B26  k4 Q y2 z0 M → ts_V p l e (ts_rm 2 0 0) s m args below meth c g 4 0 0 (MQ below (ts_Q g (ts_Ri Q)) args s 0 0 (ts_A g)) 26 [(0, .ref (ts_ad g 164)), (2, ts_v y2)] [ts_v z0] M := by
    intro k4 hk4 y2 z0 M
    unfold wX12_largest_B26
    refine ts_istore_n C dX12_largest_26 rfl (by decide) (lv' := fun x6 => [(1, ts_v x6), (0, .ref (ts_ad g 164)), (2, ts_v y2)]) (fun _ => rfl) (fun x6 => ?_)
    refine ts_iinc C dX12_largest_27 2 rfl (by decide) (lv' := fun x7 => [(2, ts_v x7), (1, ts_v x6), (0, .ref (ts_ad g 164))]) (fun _ => rfl) (fun x7 => ?_)
    refine ts_goto C 4 dX12_largest_30 rfl ?_
    exact ts_sub [2, 1, 0] rfl (hk4 _ _ _)
  have H4 : ∀ (n : Nat) (y1 : Int) (y2 : Int) (M : ts_M), ts_lp2 (wX12_largest_L4   Q) n y1 y2 M → ts_V p l e (ts_rm 2 0 0) s m args below meth c g 4 0 0 (MQ below (ts_Q g (ts_Ri Q)) args s 0 0 (ts_A g)) 4 [(0, .ref (ts_ad g 164)), (1, ts_v y1), (2, ts_v y2)] [] M := by
    refine ts_lpr2 (V := fun (y1 : Int) (y2 : Int) (M : ts_M) => ts_V p l e (ts_rm 2 0 0) s m args below meth c g 4 0 0 (MQ below (ts_Q g (ts_Ri Q)) args s 0 0 (ts_A g)) 4 [(0, .ref (ts_ad g 164)), (1, ts_v y1), (2, ts_v y2)] [] M) ?_
    intro k4 hk4 y1 y2 M
    unfold wX12_largest_L4
    refine ts_iload_n C dX12_largest_4 rfl 2 rfl ?_
    refine ts_bipush C dX12_largest_5 64 tb_64 ?_
    refine ts_cmp_ge C rfl tw_64 33 dX12_largest_7 rfl ?_ ?_
    · refine ts_iload_n C dX12_largest_33 rfl 1 rfl ?_
      exact ts_ireti C (Nat.zero_le _) (Nat.zero_le _) dX12_largest_34
    · refine ts_aload_n C dX12_largest_10 rfl 0 rfl ?_
      refine ts_iload_n C dX12_largest_11 rfl 2 rfl ?_
      refine ts_callVi C [ts_v y2] (mX12_marksPuddle hl) kX12_marksPuddle q_2250 (by decide) shX12 rfl rfl rfl (Nat.le_of_ble_eq_true rfl) ⟨Nat.le_of_ble_eq_true rfl, Nat.le_of_ble_eq_true rfl⟩ ⟨Nat.le_of_ble_eq_true rfl, Nat.le_of_ble_eq_true rfl⟩ dX12_largest_12 (fun r4 M3 => ?_)
      refine ts_istore_n C dX12_largest_15 rfl (by decide) (lv' := fun x5 => [(3, ts_v x5), (0, .ref (ts_ad g 164)), (1, ts_v y1), (2, ts_v y2)]) (fun _ => rfl) (fun x5 => ?_)
      refine ts_iload_n C dX12_largest_16 rfl 0 rfl ?_
      refine ts_iload_n C dX12_largest_17 rfl 2 rfl ?_
      refine ts_cmp_le C rfl rfl 25 dX12_largest_18 rfl ?_ ?_
      · refine ts_iload_n C dX12_largest_25 rfl 2 rfl ?_
        exact ts_sub [1, 3] rfl (H26 k4 hk4 _ _ _)
      · refine ts_iload_n C dX12_largest_21 rfl 0 rfl ?_
        refine ts_goto C 26 dX12_largest_22 rfl ?_
        exact ts_sub [1, 3] rfl (H26 k4 hk4 _ _ _)
  revert h0
  unfold wX12_largest
  have hl0 : lv_args 0 [.ref (ts_ad g 164)] = [(0, .ref (ts_ad g 164))] := rfl
  rw [hl0]
  refine ts_iconst C dX12_largest_0 0 rfl ?_
  refine ts_istore_n C dX12_largest_1 rfl (by decide) (lv' := fun x1 => [(1, ts_v x1), (0, .ref (ts_ad g 164))]) (fun _ => rfl) (fun x1 => ?_)
  refine ts_iconst C dX12_largest_2 0 rfl ?_
  refine ts_istore_n C dX12_largest_3 rfl (by decide) (lv' := fun x2 => [(2, ts_v x2), (1, ts_v x1), (0, .ref (ts_ad g 164))]) (fun _ => rfl) (fun x2 => ?_)
  rintro ⟨n, hn⟩
  exact ts_sub [2, 1, 0] rfl (H4 n _ _ _) hn
def wX12_spills_B34   (Q : Int → ts_M → Prop)   (M : ts_M) : Prop :=
  (wX12_wets  (fun r5 M4 => Q r5 M4) M)
def wX12_spills_L3   (Q : Int → ts_M → Prop) (k3 : Int → Int → Int → Int → ts_M → Prop) (y1 : Int) (y2 : Int) (y3 : Int) (y4 : Int) (M : ts_M) : Prop :=
  ((ts_w y3 ≤ ts_w y4 → (wX12_largest  (fun r3 M2 => ((ts_w r3 < 20 → wX12_spills_B34 Q M2) ∧ (¬ (ts_w r3 < 20) → (wX12_adjourns  (fun M6 => wX12_spills_B34 Q M6) M2)))) M)) ∧ (¬ (ts_w y3 ≤ ts_w y4) → (wX12_wetsNext y1 y2 (fun M7 => (∀ x8 : Int, x8 = y4 + 1 → k3 y1 y2 y3 x8 M7)) M)))
def wX12_spills (p1 : Int) (p2 : Int) (p3 : Int) (Q : Int → ts_M → Prop) (M : ts_M) : Prop :=
  (∀ x1 : Int, x1 = 0 → ∃ n, ts_lp4 (wX12_spills_L3 Q) n p1 p2 p3 x1 M)
set_option maxRecDepth 100000 in
set_option maxHeartbeats 4000000 in
theorem mX12_spills {l : Launch} {g : ts_W} (hl : l.stackTraces = false) {p1 : Int} {p2 : Int} {p3 : Int} {Q : Int → ts_M → Prop} {M : ts_M} : wX12_spills p1 p2 p3 Q M → ts_Con l g yX12_spills cX12_spills 5 (some .int) 3 0 0 [.ref (ts_ad g 164), ts_v p1, ts_v p2, ts_v p3] M (ts_Ri Q) := by
  intro h0
  refine ts_Con.of hl (by decide) (Nat.le_of_ble_eq_true rfl) ?_
  intro p e s m args below meth c C
  have H34 : ∀  (M : ts_M), wX12_spills_B34   Q  M → ts_V p l e (ts_rm 3 0 0) s m args below meth c g 5 0 0 (MQ below (ts_Q g (ts_Ri Q)) args s 0 0 (ts_A g)) 34 [(0, .ref (ts_ad g 164))] [] M := by
    intro   M
    unfold wX12_spills_B34
    refine ts_aload_n C dX12_spills_34 rfl 0 rfl ?_
    refine ts_callVi C [] (mX12_wets hl) kX12_wets q_2258 (by decide) shX12 rfl rfl rfl (Nat.le_of_ble_eq_true rfl) ⟨Nat.le_of_ble_eq_true rfl, Nat.le_of_ble_eq_true rfl⟩ ⟨Nat.le_of_ble_eq_true rfl, Nat.le_of_ble_eq_true rfl⟩ dX12_spills_35 (fun r5 M4 => ?_)
    exact ts_ireti C (Nat.zero_le _) (Nat.zero_le _) dX12_spills_38
  have H3 : ∀ (n : Nat) (y1 : Int) (y2 : Int) (y3 : Int) (y4 : Int) (M : ts_M), ts_lp4 (wX12_spills_L3   Q) n y1 y2 y3 y4 M → ts_V p l e (ts_rm 3 0 0) s m args below meth c g 5 0 0 (MQ below (ts_Q g (ts_Ri Q)) args s 0 0 (ts_A g)) 3 [(0, .ref (ts_ad g 164)), (1, ts_v y1), (2, ts_v y2), (3, ts_v y3), (4, ts_v y4)] [] M := by
    refine ts_lpr4 (V := fun (y1 : Int) (y2 : Int) (y3 : Int) (y4 : Int) (M : ts_M) => ts_V p l e (ts_rm 3 0 0) s m args below meth c g 5 0 0 (MQ below (ts_Q g (ts_Ri Q)) args s 0 0 (ts_A g)) 3 [(0, .ref (ts_ad g 164)), (1, ts_v y1), (2, ts_v y2), (3, ts_v y3), (4, ts_v y4)] [] M) ?_
    intro k3 hk3 y1 y2 y3 y4 M
    unfold wX12_spills_L3
    refine ts_iload C dX12_spills_3 4 rfl ?_
    refine ts_iload_n C dX12_spills_5 rfl 3 rfl ?_
    refine ts_cmp_ge C rfl rfl 21 dX12_spills_6 rfl ?_ ?_
    · refine ts_aload_n C dX12_spills_21 rfl 0 rfl ?_
      refine ts_callVi C [] (mX12_largest hl) kX12_largest q_2246 (by decide) shX12 rfl rfl rfl (Nat.le_of_ble_eq_true rfl) ⟨Nat.le_of_ble_eq_true rfl, Nat.le_of_ble_eq_true rfl⟩ ⟨Nat.le_of_ble_eq_true rfl, Nat.le_of_ble_eq_true rfl⟩ dX12_spills_22 (fun r3 M2 => ?_)
      refine ts_bipush C dX12_spills_25 20 tb_20 ?_
      refine ts_cmp_lt C rfl tw_20 34 dX12_spills_27 rfl ?_ ?_
      · exact ts_sub [0] rfl (H34 _)
      · refine ts_aload_n C dX12_spills_30 rfl 0 rfl ?_
        refine ts_callVv C [] (mX12_adjourns hl) kX12_adjourns q_2224 (by decide) shX12 rfl rfl rfl (Nat.le_of_ble_eq_true rfl) ⟨Nat.le_of_ble_eq_true rfl, Nat.le_of_ble_eq_true rfl⟩ ⟨Nat.le_of_ble_eq_true rfl, Nat.le_of_ble_eq_true rfl⟩ dX12_spills_31 (fun M6 => ?_)
        exact ts_sub [0] rfl (H34 _)
    · refine ts_aload_n C dX12_spills_9 rfl 0 rfl ?_
      refine ts_iload_n C dX12_spills_10 rfl 1 rfl ?_
      refine ts_iload_n C dX12_spills_11 rfl 2 rfl ?_
      refine ts_callVv C [ts_v y1, ts_v y2] (mX12_wetsNext hl) kX12_wetsNext q_2242 (by decide) shX12 rfl rfl rfl (Nat.le_of_ble_eq_true rfl) ⟨Nat.le_of_ble_eq_true rfl, Nat.le_of_ble_eq_true rfl⟩ ⟨Nat.le_of_ble_eq_true rfl, Nat.le_of_ble_eq_true rfl⟩ dX12_spills_12 (fun M7 => ?_)
      refine ts_iinc C dX12_spills_15 4 rfl (by decide) (lv' := fun x8 => [(4, ts_v x8), (0, .ref (ts_ad g 164)), (1, ts_v y1), (2, ts_v y2), (3, ts_v y3)]) (fun _ => rfl) (fun x8 => ?_)
      refine ts_goto C 3 dX12_spills_18 rfl ?_
      exact ts_sub [1, 2, 3, 4, 0] rfl (hk3 _ _ _ _ _)
  revert h0
  unfold wX12_spills
  have hl0 : lv_args 0 [.ref (ts_ad g 164), ts_v p1, ts_v p2, ts_v p3] = [(0, .ref (ts_ad g 164)), (1, ts_v p1), (2, ts_v p2), (3, ts_v p3)] := rfl
  rw [hl0]
  refine ts_iconst C dX12_spills_0 0 rfl ?_
  refine ts_istore C dX12_spills_1 (by decide) (lv' := fun x1 => [(4, ts_v x1), (0, .ref (ts_ad g 164)), (1, ts_v p1), (2, ts_v p2), (3, ts_v p3)]) (fun _ => rfl) (fun x1 => ?_)
  rintro ⟨n, hn⟩
  exact ts_sub [1, 2, 3, 4, 0] rfl (H3 n _ _ _ _ _) hn
def wX12_spill (p1 : Int) (p2 : Int) (p3 : Int) (Q : Int → ts_M → Prop) (M : ts_M) : Prop :=
  (∀ M1, M1 = ts_si M 164 0 0 → (wX12_notSpill p1 p2 p3 (fun r3 M2 => (∀ x4 : Int, x4 = r3 → ((ts_w x4 = 0 → (wX12_remembers  (fun M5 => (wX12_spills p1 p2 p3 (fun r7 M6 => Q r7 M6) M5)) M2)) ∧ (¬ (ts_w x4 = 0) → (wX12_fails x4 (fun r9 M8 => Q r9 M8) M2))))) M1))
set_option maxRecDepth 100000 in
set_option maxHeartbeats 4000000 in
theorem mX12_spill {l : Launch} {g : ts_W} (hl : l.stackTraces = false) {p1 : Int} {p2 : Int} {p3 : Int} {Q : Int → ts_M → Prop} {M : ts_M} : wX12_spill p1 p2 p3 Q M → ts_Con l g yX12_spill cX12_spill 5 (some .int) 4 0 0 [.ref (ts_ad g 164), ts_v p1, ts_v p2, ts_v p3] M (ts_Ri Q) := by
  intro h0
  refine ts_Con.of hl (by decide) (Nat.le_of_ble_eq_true rfl) ?_
  intro p e s m args below meth c C
  revert h0
  unfold wX12_spill
  have hl0 : lv_args 0 [.ref (ts_ad g 164), ts_v p1, ts_v p2, ts_v p3] = [(0, .ref (ts_ad g 164)), (1, ts_v p1), (2, ts_v p2), (3, ts_v p3)] := rfl
  rw [hl0]
  refine ts_aload_n C dX12_spill_0 rfl 0 rfl ?_
  refine ts_iconst C dX12_spill_1 0 rfl ?_
  refine tpX12_0 C q_1958 dX12_spill_2 (fun M1 => ?_)
  refine ts_iload_n C dX12_spill_5 rfl 1 rfl ?_
  refine ts_iload_n C dX12_spill_6 rfl 2 rfl ?_
  refine ts_iload_n C dX12_spill_7 rfl 3 rfl ?_
  refine ts_callSi C [ts_v p1, ts_v p2, ts_v p3] (mX12_notSpill hl) kX12_notSpill q_2232 rfl rfl (Nat.le_of_ble_eq_true rfl) ⟨Nat.le_of_ble_eq_true rfl, Nat.le_of_ble_eq_true rfl⟩ ⟨Nat.le_of_ble_eq_true rfl, Nat.le_of_ble_eq_true rfl⟩ dX12_spill_8 (fun r3 M2 => ?_)
  refine ts_istore C dX12_spill_11 (by decide) (lv' := fun x4 => [(4, ts_v x4), (0, .ref (ts_ad g 164)), (1, ts_v p1), (2, ts_v p2), (3, ts_v p3)]) (fun _ => rfl) (fun x4 => ?_)
  refine ts_iload C dX12_spill_13 0 rfl ?_
  refine ts_cm0_eq C rfl 25 dX12_spill_15 rfl ?_ ?_
  · refine ts_aload_n C dX12_spill_25 rfl 1 rfl ?_
    refine ts_callVv C [] (mX12_remembers hl) kX12_remembers q_2041 (by decide) shX12 rfl rfl rfl (Nat.le_of_ble_eq_true rfl) ⟨Nat.le_of_ble_eq_true rfl, Nat.le_of_ble_eq_true rfl⟩ ⟨Nat.le_of_ble_eq_true rfl, Nat.le_of_ble_eq_true rfl⟩ dX12_spill_26 (fun M5 => ?_)
    refine ts_aload_n C dX12_spill_29 rfl 1 rfl ?_
    refine ts_iload_n C dX12_spill_30 rfl 2 rfl ?_
    refine ts_iload_n C dX12_spill_31 rfl 3 rfl ?_
    refine ts_iload_n C dX12_spill_32 rfl 4 rfl ?_
    refine ts_callVi C [ts_v p1, ts_v p2, ts_v p3] (mX12_spills hl) kX12_spills q_2238 (by decide) shX12 rfl rfl rfl (Nat.le_of_ble_eq_true rfl) ⟨Nat.le_of_ble_eq_true rfl, Nat.le_of_ble_eq_true rfl⟩ ⟨Nat.le_of_ble_eq_true rfl, Nat.le_of_ble_eq_true rfl⟩ dX12_spill_33 (fun r7 M6 => ?_)
    exact ts_ireti C (Nat.zero_le _) (Nat.zero_le _) dX12_spill_36
  · refine ts_aload_n C dX12_spill_18 rfl 1 rfl ?_
    refine ts_iload C dX12_spill_19 0 rfl ?_
    refine ts_callVi C [ts_v x4] (mX12_fails hl) kX12_fails q_2037 (by decide) shX12 rfl rfl rfl (Nat.le_of_ble_eq_true rfl) ⟨Nat.le_of_ble_eq_true rfl, Nat.le_of_ble_eq_true rfl⟩ ⟨Nat.le_of_ble_eq_true rfl, Nat.le_of_ble_eq_true rfl⟩ dX12_spill_21 (fun r9 M8 => ?_)
    exact ts_ireti C (Nat.zero_le _) (Nat.zero_le _) dX12_spill_24
def wX12_mops_L14   (Q : Int → ts_M → Prop) (k14 : Int → Int → ts_M → Prop) (y3 : Int) (y4 : Int) (M : ts_M) : Prop :=
  ((64 ≤ ts_w y4 → Q y3 M) ∧ (¬ (64 ≤ ts_w y4) → ((0 ≤ ts_w (82 + y4) ∧ ts_w (82 + y4) < ((146 : Nat) : Int)) ∧ ((0 ≤ ts_w y4 ∧ ts_w y4 < ((64 : Nat) : Int)) ∧ ((0 ≤ ts_w (82 + y4) ∧ ts_w (82 + y4) < ((146 : Nat) : Int)) ∧ ∀ M5, M5 = ts_si M 165 (ts_w (82 + y4)) ((M.1 165 (ts_w (82 + y4))) - (M.1 169 (ts_w y4))) → (∀ x6 : Int, x6 = y4 + 1 → k14 y3 x6 M5))))))
def wX12_mops (p1 : Int) (p2 : Int) (Q : Int → ts_M → Prop) (M : ts_M) : Prop :=
  (wX12_marksPuddle ((8 * p1) + p2) (fun r2 M1 => (∀ x3 : Int, x3 = r2 → (∀ x4 : Int, x4 = 0 → ∃ n, ts_lp2 (wX12_mops_L14 Q) n x3 x4 M1))) M)
set_option maxRecDepth 100000 in
set_option maxHeartbeats 4000000 in
theorem mX12_mops {l : Launch} {g : ts_W} (hl : l.stackTraces = false) {p1 : Int} {p2 : Int} {Q : Int → ts_M → Prop} {M : ts_M} : wX12_mops p1 p2 Q M → ts_Con l g yX12_mops cX12_mops 5 (some .int) 2 0 0 [.ref (ts_ad g 164), ts_v p1, ts_v p2] M (ts_Ri Q) := by
  intro h0
  refine ts_Con.of hl (by decide) (Nat.le_of_ble_eq_true rfl) ?_
  intro p e s m args below meth c C
  have H14 : ∀ (n : Nat) (y3 : Int) (y4 : Int) (M : ts_M), ts_lp2 (wX12_mops_L14   Q) n y3 y4 M → ts_V p l e (ts_rm 2 0 0) s m args below meth c g 5 0 0 (MQ below (ts_Q g (ts_Ri Q)) args s 0 0 (ts_A g)) 14 [(0, .ref (ts_ad g 164)), (3, ts_v y3), (4, ts_v y4)] [] M := by
    refine ts_lpr2 (V := fun (y3 : Int) (y4 : Int) (M : ts_M) => ts_V p l e (ts_rm 2 0 0) s m args below meth c g 5 0 0 (MQ below (ts_Q g (ts_Ri Q)) args s 0 0 (ts_A g)) 14 [(0, .ref (ts_ad g 164)), (3, ts_v y3), (4, ts_v y4)] [] M) ?_
    intro k14 hk14 y3 y4 M
    unfold wX12_mops_L14
    refine ts_iload C dX12_mops_14 2 rfl ?_
    refine ts_bipush C dX12_mops_16 64 tb_64 ?_
    refine ts_cmp_ge C rfl tw_64 47 dX12_mops_18 rfl ?_ ?_
    · refine ts_iload_n C dX12_mops_47 rfl 1 rfl ?_
      exact ts_ireti C (Nat.zero_le _) (Nat.zero_le _) dX12_mops_48
    · refine ts_aload_n C dX12_mops_21 rfl 0 rfl ?_
      refine tgX12_1 C q_1959 dX12_mops_22 ?_
      refine ts_bipush C dX12_mops_25 82 tb_82 ?_
      refine ts_iload C dX12_mops_27 2 rfl ?_
      refine ts_iadd C dX12_mops_29 ?_
      refine ts_dup2 C dX12_mops_30 rfl rfl ?_
      refine ts_iald C (by decide) shG165 dX12_mops_31 ?_
      refine ts_aload_n C dX12_mops_32 rfl 0 rfl ?_
      refine tgX12_8 C q_1966 dX12_mops_33 ?_
      refine ts_iload C dX12_mops_36 2 rfl ?_
      refine ts_iald C (by decide) shG169 dX12_mops_38 ?_
      refine ts_isub C dX12_mops_39 ?_
      refine ts_iast C (by decide) shG165 dX12_mops_40 (fun M5 => ?_)
      refine ts_iinc C dX12_mops_41 2 rfl (by decide) (lv' := fun x6 => [(4, ts_v x6), (0, .ref (ts_ad g 164)), (3, ts_v y3)]) (fun _ => rfl) (fun x6 => ?_)
      refine ts_goto C 14 dX12_mops_44 rfl ?_
      exact ts_sub [1, 2, 0] rfl (hk14 _ _ _)
  revert h0
  unfold wX12_mops
  have hl0 : lv_args 0 [.ref (ts_ad g 164), ts_v p1, ts_v p2] = [(0, .ref (ts_ad g 164)), (1, ts_v p1), (2, ts_v p2)] := rfl
  rw [hl0]
  refine ts_aload_n C dX12_mops_0 rfl 0 rfl ?_
  refine ts_bipush C dX12_mops_1 8 tb_8 ?_
  refine ts_iload_n C dX12_mops_3 rfl 1 rfl ?_
  refine ts_imul C dX12_mops_4 ?_
  refine ts_iload_n C dX12_mops_5 rfl 2 rfl ?_
  refine ts_iadd C dX12_mops_6 ?_
  refine ts_callVi C [ts_v ((8 * p1) + p2)] (mX12_marksPuddle hl) kX12_marksPuddle q_2250 (by decide) shX12 rfl rfl rfl (Nat.le_of_ble_eq_true rfl) ⟨Nat.le_of_ble_eq_true rfl, Nat.le_of_ble_eq_true rfl⟩ ⟨Nat.le_of_ble_eq_true rfl, Nat.le_of_ble_eq_true rfl⟩ dX12_mops_7 (fun r2 M1 => ?_)
  refine ts_istore_n C dX12_mops_10 rfl (by decide) (lv' := fun x3 => [(3, ts_v x3), (0, .ref (ts_ad g 164)), (1, ts_v p1), (2, ts_v p2)]) (fun _ => rfl) (fun x3 => ?_)
  refine ts_iconst C dX12_mops_11 0 rfl ?_
  refine ts_istore C dX12_mops_12 (by decide) (lv' := fun x4 => [(4, ts_v x4), (3, ts_v x3), (0, .ref (ts_ad g 164)), (1, ts_v p1), (2, ts_v p2)]) (fun _ => rfl) (fun x4 => ?_)
  rintro ⟨n, hn⟩
  exact ts_sub [2, 1, 0] rfl (H14 n _ _ _) hn
def wX12_mop (p1 : Int) (p2 : Int) (Q : Int → ts_M → Prop) (M : ts_M) : Prop :=
  (∀ M1, M1 = ts_si M 164 0 0 → (wX12_notMop p1 p2 (fun r3 M2 => (∀ x4 : Int, x4 = r3 → ((ts_w x4 = 0 → (wX12_remembers  (fun M5 => (wX12_mops p1 p2 (fun r7 M6 => Q r7 M6) M5)) M2)) ∧ (¬ (ts_w x4 = 0) → (wX12_fails x4 (fun r9 M8 => Q r9 M8) M2))))) M1))
set_option maxRecDepth 100000 in
set_option maxHeartbeats 4000000 in
theorem mX12_mop {l : Launch} {g : ts_W} (hl : l.stackTraces = false) {p1 : Int} {p2 : Int} {Q : Int → ts_M → Prop} {M : ts_M} : wX12_mop p1 p2 Q M → ts_Con l g yX12_mop cX12_mop 4 (some .int) 3 0 0 [.ref (ts_ad g 164), ts_v p1, ts_v p2] M (ts_Ri Q) := by
  intro h0
  refine ts_Con.of hl (by decide) (Nat.le_of_ble_eq_true rfl) ?_
  intro p e s m args below meth c C
  revert h0
  unfold wX12_mop
  have hl0 : lv_args 0 [.ref (ts_ad g 164), ts_v p1, ts_v p2] = [(0, .ref (ts_ad g 164)), (1, ts_v p1), (2, ts_v p2)] := rfl
  rw [hl0]
  refine ts_aload_n C dX12_mop_0 rfl 0 rfl ?_
  refine ts_iconst C dX12_mop_1 0 rfl ?_
  refine tpX12_0 C q_1958 dX12_mop_2 (fun M1 => ?_)
  refine ts_aload_n C dX12_mop_5 rfl 0 rfl ?_
  refine ts_iload_n C dX12_mop_6 rfl 1 rfl ?_
  refine ts_iload_n C dX12_mop_7 rfl 2 rfl ?_
  refine ts_callVi C [ts_v p1, ts_v p2] (mX12_notMop hl) kX12_notMop q_2266 (by decide) shX12 rfl rfl rfl (Nat.le_of_ble_eq_true rfl) ⟨Nat.le_of_ble_eq_true rfl, Nat.le_of_ble_eq_true rfl⟩ ⟨Nat.le_of_ble_eq_true rfl, Nat.le_of_ble_eq_true rfl⟩ dX12_mop_8 (fun r3 M2 => ?_)
  refine ts_istore_n C dX12_mop_11 rfl (by decide) (lv' := fun x4 => [(3, ts_v x4), (0, .ref (ts_ad g 164)), (1, ts_v p1), (2, ts_v p2)]) (fun _ => rfl) (fun x4 => ?_)
  refine ts_iload_n C dX12_mop_12 rfl 0 rfl ?_
  refine ts_cm0_eq C rfl 22 dX12_mop_13 rfl ?_ ?_
  · refine ts_aload_n C dX12_mop_22 rfl 1 rfl ?_
    refine ts_callVv C [] (mX12_remembers hl) kX12_remembers q_2041 (by decide) shX12 rfl rfl rfl (Nat.le_of_ble_eq_true rfl) ⟨Nat.le_of_ble_eq_true rfl, Nat.le_of_ble_eq_true rfl⟩ ⟨Nat.le_of_ble_eq_true rfl, Nat.le_of_ble_eq_true rfl⟩ dX12_mop_23 (fun M5 => ?_)
    refine ts_aload_n C dX12_mop_26 rfl 1 rfl ?_
    refine ts_iload_n C dX12_mop_27 rfl 2 rfl ?_
    refine ts_iload_n C dX12_mop_28 rfl 3 rfl ?_
    refine ts_callVi C [ts_v p1, ts_v p2] (mX12_mops hl) kX12_mops q_2270 (by decide) shX12 rfl rfl rfl (Nat.le_of_ble_eq_true rfl) ⟨Nat.le_of_ble_eq_true rfl, Nat.le_of_ble_eq_true rfl⟩ ⟨Nat.le_of_ble_eq_true rfl, Nat.le_of_ble_eq_true rfl⟩ dX12_mop_29 (fun r7 M6 => ?_)
    exact ts_ireti C (Nat.zero_le _) (Nat.zero_le _) dX12_mop_32
  · refine ts_aload_n C dX12_mop_16 rfl 1 rfl ?_
    refine ts_iload_n C dX12_mop_17 rfl 0 rfl ?_
    refine ts_callVi C [ts_v x4] (mX12_fails hl) kX12_fails q_2037 (by decide) shX12 rfl rfl rfl (Nat.le_of_ble_eq_true rfl) ⟨Nat.le_of_ble_eq_true rfl, Nat.le_of_ble_eq_true rfl⟩ ⟨Nat.le_of_ble_eq_true rfl, Nat.le_of_ble_eq_true rfl⟩ dX12_mop_18 (fun r9 M8 => ?_)
    exact ts_ireti C (Nat.zero_le _) (Nat.zero_le _) dX12_mop_21
def wX12_puddle_B31   (Q : Int → ts_M → Prop)  (z0 : Int) (M : ts_M) : Prop :=
  Q z0 M
def wX12_puddle (p1 : Int) (p2 : Int) (Q : Int → ts_M → Prop) (M : ts_M) : Prop :=
  (∀ M1, M1 = ts_si M 164 0 0 → (wX12_isCell p1 p2 (fun r3 M2 => ((ts_w r3 = 0 → (wX12_fails 1 (fun r5 M4 => wX12_puddle_B31 Q r5 M4) M2)) ∧ (¬ (ts_w r3 = 0) → (wX12_marksPuddle ((8 * p1) + p2) (fun r7 M6 => wX12_puddle_B31 Q r7 M6) M2)))) M1))
set_option maxRecDepth 100000 in
set_option maxHeartbeats 4000000 in
theorem mX12_puddle {l : Launch} {g : ts_W} (hl : l.stackTraces = false) {p1 : Int} {p2 : Int} {Q : Int → ts_M → Prop} {M : ts_M} : wX12_puddle p1 p2 Q M → ts_Con l g yX12_puddle cX12_puddle 3 (some .int) 2 0 0 [.ref (ts_ad g 164), ts_v p1, ts_v p2] M (ts_Ri Q) := by
  intro h0
  refine ts_Con.of hl (by decide) (Nat.le_of_ble_eq_true rfl) ?_
  intro p e s m args below meth c C
  have H31 : ∀ (z0 : Int) (M : ts_M), wX12_puddle_B31   Q z0 M → ts_V p l e (ts_rm 2 0 0) s m args below meth c g 3 0 0 (MQ below (ts_Q g (ts_Ri Q)) args s 0 0 (ts_A g)) 31 [] [ts_v z0] M := by
    intro  z0 M
    unfold wX12_puddle_B31
    exact ts_ireti C (Nat.zero_le _) (Nat.zero_le _) dX12_puddle_31
  revert h0
  unfold wX12_puddle
  have hl0 : lv_args 0 [.ref (ts_ad g 164), ts_v p1, ts_v p2] = [(0, .ref (ts_ad g 164)), (1, ts_v p1), (2, ts_v p2)] := rfl
  rw [hl0]
  refine ts_aload_n C dX12_puddle_0 rfl 0 rfl ?_
  refine ts_iconst C dX12_puddle_1 0 rfl ?_
  refine tpX12_0 C q_1958 dX12_puddle_2 (fun M1 => ?_)
  refine ts_iload_n C dX12_puddle_5 rfl 1 rfl ?_
  refine ts_iload_n C dX12_puddle_6 rfl 2 rfl ?_
  refine ts_callSi C [ts_v p1, ts_v p2] (mX12_isCell hl) kX12_isCell q_2235 rfl rfl (Nat.le_of_ble_eq_true rfl) ⟨Nat.le_of_ble_eq_true rfl, Nat.le_of_ble_eq_true rfl⟩ ⟨Nat.le_of_ble_eq_true rfl, Nat.le_of_ble_eq_true rfl⟩ dX12_puddle_7 (fun r3 M2 => ?_)
  refine ts_cm0_eq C rfl 26 dX12_puddle_10 rfl ?_ ?_
  · refine ts_aload_n C dX12_puddle_26 rfl 0 rfl ?_
    refine ts_iconst C dX12_puddle_27 1 rfl ?_
    refine ts_callVi C [ts_v 1] (mX12_fails hl) kX12_fails q_2037 (by decide) shX12 rfl rfl rfl (Nat.le_of_ble_eq_true rfl) ⟨Nat.le_of_ble_eq_true rfl, Nat.le_of_ble_eq_true rfl⟩ ⟨Nat.le_of_ble_eq_true rfl, Nat.le_of_ble_eq_true rfl⟩ dX12_puddle_28 (fun r5 M4 => ?_)
    exact ts_sub [] rfl (H31 _ _)
  · refine ts_aload_n C dX12_puddle_13 rfl 0 rfl ?_
    refine ts_bipush C dX12_puddle_14 8 tb_8 ?_
    refine ts_iload_n C dX12_puddle_16 rfl 1 rfl ?_
    refine ts_imul C dX12_puddle_17 ?_
    refine ts_iload_n C dX12_puddle_18 rfl 2 rfl ?_
    refine ts_iadd C dX12_puddle_19 ?_
    refine ts_callVi C [ts_v ((8 * p1) + p2)] (mX12_marksPuddle hl) kX12_marksPuddle q_2250 (by decide) shX12 rfl rfl rfl (Nat.le_of_ble_eq_true rfl) ⟨Nat.le_of_ble_eq_true rfl, Nat.le_of_ble_eq_true rfl⟩ ⟨Nat.le_of_ble_eq_true rfl, Nat.le_of_ble_eq_true rfl⟩ dX12_puddle_20 (fun r7 M6 => ?_)
    refine ts_goto C 31 dX12_puddle_23 rfl ?_
    exact ts_sub [] rfl (H31 _ _)
def wX12_puddleByGroups (p1 : Int) (p2 : Int) (Q : Int → ts_M → Prop) (M : ts_M) : Prop :=
  (wX12_puddle p1 p2 (fun r2 M1 => Q r2 M1) M)
set_option maxRecDepth 100000 in
set_option maxHeartbeats 4000000 in
theorem mX12_puddleByGroups {l : Launch} {g : ts_W} (hl : l.stackTraces = false) {p1 : Int} {p2 : Int} {Q : Int → ts_M → Prop} {M : ts_M} : wX12_puddleByGroups p1 p2 Q M → ts_Con l g yX12_puddleByGroups cX12_puddleByGroups 3 (some .int) 3 0 0 [.ref (ts_ad g 164), ts_v p1, ts_v p2] M (ts_Ri Q) := by
  intro h0
  refine ts_Con.of hl (by decide) (Nat.le_of_ble_eq_true rfl) ?_
  intro p e s m args below meth c C
  revert h0
  unfold wX12_puddleByGroups
  have hl0 : lv_args 0 [.ref (ts_ad g 164), ts_v p1, ts_v p2] = [(0, .ref (ts_ad g 164)), (1, ts_v p1), (2, ts_v p2)] := rfl
  rw [hl0]
  refine ts_aload_n C dX12_puddleByGroups_0 rfl 0 rfl ?_
  refine ts_iload_n C dX12_puddleByGroups_1 rfl 1 rfl ?_
  refine ts_iload_n C dX12_puddleByGroups_2 rfl 2 rfl ?_
  refine ts_callVi C [ts_v p1, ts_v p2] (mX12_puddle hl) kX12_puddle q_2438 (by decide) shX12 rfl rfl rfl (Nat.le_of_ble_eq_true rfl) ⟨Nat.le_of_ble_eq_true rfl, Nat.le_of_ble_eq_true rfl⟩ ⟨Nat.le_of_ble_eq_true rfl, Nat.le_of_ble_eq_true rfl⟩ dX12_puddleByGroups_3 (fun r2 M1 => ?_)
  exact ts_ireti C (Nat.zero_le _) (Nat.zero_le _) dX12_puddleByGroups_6
def wX12_largestPuddle (Q : Int → ts_M → Prop) (M : ts_M) : Prop :=
  (∀ M1, M1 = ts_si M 164 0 0 → (wX12_largest  (fun r3 M2 => Q r3 M2) M1))
set_option maxRecDepth 100000 in
set_option maxHeartbeats 4000000 in
theorem mX12_largestPuddle {l : Launch} {g : ts_W} (hl : l.stackTraces = false) {Q : Int → ts_M → Prop} {M : ts_M} : wX12_largestPuddle Q M → ts_Con l g yX12_largestPuddle cX12_largestPuddle 1 (some .int) 3 0 0 [.ref (ts_ad g 164)] M (ts_Ri Q) := by
  intro h0
  refine ts_Con.of hl (by decide) (Nat.le_of_ble_eq_true rfl) ?_
  intro p e s m args below meth c C
  revert h0
  unfold wX12_largestPuddle
  have hl0 : lv_args 0 [.ref (ts_ad g 164)] = [(0, .ref (ts_ad g 164))] := rfl
  rw [hl0]
  refine ts_aload_n C dX12_largestPuddle_0 rfl 0 rfl ?_
  refine ts_iconst C dX12_largestPuddle_1 0 rfl ?_
  refine tpX12_0 C q_1958 dX12_largestPuddle_2 (fun M1 => ?_)
  refine ts_aload_n C dX12_largestPuddle_5 rfl 0 rfl ?_
  refine ts_callVi C [] (mX12_largest hl) kX12_largest q_2246 (by decide) shX12 rfl rfl rfl (Nat.le_of_ble_eq_true rfl) ⟨Nat.le_of_ble_eq_true rfl, Nat.le_of_ble_eq_true rfl⟩ ⟨Nat.le_of_ble_eq_true rfl, Nat.le_of_ble_eq_true rfl⟩ dX12_largestPuddle_6 (fun r3 M2 => ?_)
  exact ts_ireti C (Nat.zero_le _) (Nat.zero_le _) dX12_largestPuddle_9
def wX12_puddleCount_B73  (k9 : Int → Int → ts_M → Prop) (Q : Int → ts_M → Prop)  (y1 : Int) (y2 : Int) (M : ts_M) : Prop :=
  (∀ x9 : Int, x9 = y2 + 1 → k9 y1 x9 M)
def wX12_puddleCount_B71  (k9 : Int → Int → ts_M → Prop) (Q : Int → ts_M → Prop)  (y2 : Int) (z0 : Int) (z1 : Int) (M : ts_M) : Prop :=
  (∀ x8 : Int, x8 = z1 + z0 → wX12_puddleCount_B73 k9 Q x8 y2 M)
def wX12_puddleCount_B70  (k9 : Int → Int → ts_M → Prop) (Q : Int → ts_M → Prop)  (y2 : Int) (z0 : Int) (M : ts_M) : Prop :=
  wX12_puddleCount_B71 k9 Q y2 0 z0 M
def wX12_puddleCount_L39  (k9 : Int → Int → ts_M → Prop) (Q : Int → ts_M → Prop) (k39 : Int → Int → Int → Int → ts_M → Prop) (y1 : Int) (y2 : Int) (y3 : Int) (y4 : Int) (M : ts_M) : Prop :=
  ((0 ≤ ts_w y4 ∧ ts_w y4 < ((64 : Nat) : Int)) ∧ ((¬ (ts_w (M.1 169 (ts_w y4)) = 0) → ((¬ (ts_w y4 = ts_w y2) → wX12_puddleCount_B70 k9 Q y2 y1 M) ∧ (ts_w y4 = ts_w y2 → ((ts_w y3 ≤ 0 → wX12_puddleCount_B70 k9 Q y2 y1 M) ∧ (¬ (ts_w y3 ≤ 0) → wX12_puddleCount_B71 k9 Q y2 1 y1 M))))) ∧ (ts_w (M.1 169 (ts_w y4)) = 0 → (∀ x10 : Int, x10 = y4 + 1 → k39 y1 y2 y3 x10 M))))
def wX12_puddleCount_L9   (Q : Int → ts_M → Prop) (k9 : Int → Int → ts_M → Prop) (y1 : Int) (y2 : Int) (M : ts_M) : Prop :=
  ((64 ≤ ts_w y2 → Q y1 M) ∧ (¬ (64 ≤ ts_w y2) → ((0 ≤ ts_w (82 + y2) ∧ ts_w (82 + y2) < ((146 : Nat) : Int)) ∧ ((¬ (ts_w (M.1 165 (ts_w (82 + y2))) = 0) → (wX12_marksPuddle y2 (fun r5 M4 => (∀ x6 : Int, x6 = r5 → (∀ x7 : Int, x7 = 0 → ∃ n, ts_lp4 (wX12_puddleCount_L39 k9 Q) n y1 y2 x6 x7 M4))) M)) ∧ (ts_w (M.1 165 (ts_w (82 + y2))) = 0 → wX12_puddleCount_B73 k9 Q y1 y2 M)))))
def wX12_puddleCount (Q : Int → ts_M → Prop) (M : ts_M) : Prop :=
  (∀ M1, M1 = ts_si M 164 0 0 → (∀ x2 : Int, x2 = 0 → (∀ x3 : Int, x3 = 0 → ∃ n, ts_lp2 (wX12_puddleCount_L9 Q) n x2 x3 M1)))
set_option maxRecDepth 100000 in
set_option maxHeartbeats 4000000 in
theorem mX12_puddleCount {l : Launch} {g : ts_W} (hl : l.stackTraces = false) {Q : Int → ts_M → Prop} {M : ts_M} : wX12_puddleCount Q M → ts_Con l g yX12_puddleCount cX12_puddleCount 5 (some .int) 2 0 0 [.ref (ts_ad g 164)] M (ts_Ri Q) := by
  intro h0
  refine ts_Con.of hl (by decide) (Nat.le_of_ble_eq_true rfl) ?_
  intro p e s m args below meth c C
  have H73 : ∀ (k9 : Int → Int → ts_M → Prop) (hk9 : ∀ (y1 : Int) (y2 : Int) (M : ts_M), k9 y1 y2 M → ts_V p l e (ts_rm 2 0 0) s m args below meth c g 5 0 0 (MQ below (ts_Q g (ts_Ri Q)) args s 0 0 (ts_A g)) 9 [(0, .ref (ts_ad g 164)), (1, ts_v y1), (2, ts_v y2)] [] M) (y1 : Int) (y2 : Int) (M : ts_M), wX12_puddleCount_B73  k9 Q y1 y2 M → ts_V p l e (ts_rm 2 0 0) s m args below meth c g 5 0 0 (MQ below (ts_Q g (ts_Ri Q)) args s 0 0 (ts_A g)) 73 [(0, .ref (ts_ad g 164)), (1, ts_v y1), (2, ts_v y2)] [] M := by
    intro k9 hk9 y1 y2 M
    unfold wX12_puddleCount_B73
    refine ts_iinc C dX12_puddleCount_73 2 rfl (by decide) (lv' := fun x9 => [(2, ts_v x9), (0, .ref (ts_ad g 164)), (1, ts_v y1)]) (fun _ => rfl) (fun x9 => ?_)
    refine ts_goto C 9 dX12_puddleCount_76 rfl ?_
    exact ts_sub [1, 2, 0] rfl (hk9 _ _ _)
  have H71 : ∀ (k9 : Int → Int → ts_M → Prop) (hk9 : ∀ (y1 : Int) (y2 : Int) (M : ts_M), k9 y1 y2 M → ts_V p l e (ts_rm 2 0 0) s m args below meth c g 5 0 0 (MQ below (ts_Q g (ts_Ri Q)) args s 0 0 (ts_A g)) 9 [(0, .ref (ts_ad g 164)), (1, ts_v y1), (2, ts_v y2)] [] M) (y2 : Int) (z0 : Int) (z1 : Int) (M : ts_M), wX12_puddleCount_B71  k9 Q y2 z0 z1 M → ts_V p l e (ts_rm 2 0 0) s m args below meth c g 5 0 0 (MQ below (ts_Q g (ts_Ri Q)) args s 0 0 (ts_A g)) 71 [(0, .ref (ts_ad g 164)), (2, ts_v y2)] [ts_v z0, ts_v z1] M := by
    intro k9 hk9 y2 z0 z1 M
    unfold wX12_puddleCount_B71
    refine ts_iadd C dX12_puddleCount_71 ?_
    refine ts_istore_n C dX12_puddleCount_72 rfl (by decide) (lv' := fun x8 => [(1, ts_v x8), (0, .ref (ts_ad g 164)), (2, ts_v y2)]) (fun _ => rfl) (fun x8 => ?_)
    exact ts_sub [1, 0, 2] rfl (H73 k9 hk9 _ _ _)
  have H70 : ∀ (k9 : Int → Int → ts_M → Prop) (hk9 : ∀ (y1 : Int) (y2 : Int) (M : ts_M), k9 y1 y2 M → ts_V p l e (ts_rm 2 0 0) s m args below meth c g 5 0 0 (MQ below (ts_Q g (ts_Ri Q)) args s 0 0 (ts_A g)) 9 [(0, .ref (ts_ad g 164)), (1, ts_v y1), (2, ts_v y2)] [] M) (y2 : Int) (z0 : Int) (M : ts_M), wX12_puddleCount_B70  k9 Q y2 z0 M → ts_V p l e (ts_rm 2 0 0) s m args below meth c g 5 0 0 (MQ below (ts_Q g (ts_Ri Q)) args s 0 0 (ts_A g)) 70 [(0, .ref (ts_ad g 164)), (2, ts_v y2)] [ts_v z0] M := by
    intro k9 hk9 y2 z0 M
    unfold wX12_puddleCount_B70
    refine ts_iconst C dX12_puddleCount_70 0 rfl ?_
    exact ts_sub [0, 1] rfl (H71 k9 hk9 _ _ _ _)
  have H39 : ∀ (k9 : Int → Int → ts_M → Prop) (hk9 : ∀ (y1 : Int) (y2 : Int) (M : ts_M), k9 y1 y2 M → ts_V p l e (ts_rm 2 0 0) s m args below meth c g 5 0 0 (MQ below (ts_Q g (ts_Ri Q)) args s 0 0 (ts_A g)) 9 [(0, .ref (ts_ad g 164)), (1, ts_v y1), (2, ts_v y2)] [] M) (n : Nat) (y1 : Int) (y2 : Int) (y3 : Int) (y4 : Int) (M : ts_M), ts_lp4 (wX12_puddleCount_L39  k9 Q) n y1 y2 y3 y4 M → ts_V p l e (ts_rm 2 0 0) s m args below meth c g 5 0 0 (MQ below (ts_Q g (ts_Ri Q)) args s 0 0 (ts_A g)) 39 [(0, .ref (ts_ad g 164)), (1, ts_v y1), (2, ts_v y2), (3, ts_v y3), (4, ts_v y4)] [] M := by
    intro k9 hk9
    refine ts_lpr4 (V := fun (y1 : Int) (y2 : Int) (y3 : Int) (y4 : Int) (M : ts_M) => ts_V p l e (ts_rm 2 0 0) s m args below meth c g 5 0 0 (MQ below (ts_Q g (ts_Ri Q)) args s 0 0 (ts_A g)) 39 [(0, .ref (ts_ad g 164)), (1, ts_v y1), (2, ts_v y2), (3, ts_v y3), (4, ts_v y4)] [] M) ?_
    intro k39 hk39 y1 y2 y3 y4 M
    unfold wX12_puddleCount_L39
    refine ts_aload_n C dX12_puddleCount_39 rfl 0 rfl ?_
    refine tgX12_8 C q_1966 dX12_puddleCount_40 ?_
    refine ts_iload C dX12_puddleCount_43 4 rfl ?_
    refine ts_iald C (by decide) shG169 dX12_puddleCount_45 ?_
    refine ts_cm0_ne C rfl 55 dX12_puddleCount_46 rfl ?_ ?_
    · refine ts_iload_n C dX12_puddleCount_55 rfl 1 rfl ?_
      refine ts_iload C dX12_puddleCount_56 4 rfl ?_
      refine ts_iload_n C dX12_puddleCount_58 rfl 2 rfl ?_
      refine ts_cmp_ne C rfl rfl 70 dX12_puddleCount_59 rfl ?_ ?_
      · exact ts_sub [0, 2] rfl (H70 k9 hk9 _ _ _)
      · refine ts_iload_n C dX12_puddleCount_62 rfl 3 rfl ?_
        refine ts_cm0_le C rfl 70 dX12_puddleCount_63 rfl ?_ ?_
        · exact ts_sub [0, 2] rfl (H70 k9 hk9 _ _ _)
        · refine ts_iconst C dX12_puddleCount_66 1 rfl ?_
          refine ts_goto C 71 dX12_puddleCount_67 rfl ?_
          exact ts_sub [0, 2] rfl (H71 k9 hk9 _ _ _ _)
    · refine ts_iinc C dX12_puddleCount_49 4 rfl (by decide) (lv' := fun x10 => [(4, ts_v x10), (0, .ref (ts_ad g 164)), (1, ts_v y1), (2, ts_v y2), (3, ts_v y3)]) (fun _ => rfl) (fun x10 => ?_)
      refine ts_goto C 39 dX12_puddleCount_52 rfl ?_
      exact ts_sub [1, 2, 3, 4, 0] rfl (hk39 _ _ _ _ _)
  have H9 : ∀ (n : Nat) (y1 : Int) (y2 : Int) (M : ts_M), ts_lp2 (wX12_puddleCount_L9   Q) n y1 y2 M → ts_V p l e (ts_rm 2 0 0) s m args below meth c g 5 0 0 (MQ below (ts_Q g (ts_Ri Q)) args s 0 0 (ts_A g)) 9 [(0, .ref (ts_ad g 164)), (1, ts_v y1), (2, ts_v y2)] [] M := by
    refine ts_lpr2 (V := fun (y1 : Int) (y2 : Int) (M : ts_M) => ts_V p l e (ts_rm 2 0 0) s m args below meth c g 5 0 0 (MQ below (ts_Q g (ts_Ri Q)) args s 0 0 (ts_A g)) 9 [(0, .ref (ts_ad g 164)), (1, ts_v y1), (2, ts_v y2)] [] M) ?_
    intro k9 hk9 y1 y2 M
    unfold wX12_puddleCount_L9
    refine ts_iload_n C dX12_puddleCount_9 rfl 2 rfl ?_
    refine ts_bipush C dX12_puddleCount_10 64 tb_64 ?_
    refine ts_cmp_ge C rfl tw_64 79 dX12_puddleCount_12 rfl ?_ ?_
    · refine ts_iload_n C dX12_puddleCount_79 rfl 1 rfl ?_
      exact ts_ireti C (Nat.zero_le _) (Nat.zero_le _) dX12_puddleCount_80
    · refine ts_aload_n C dX12_puddleCount_15 rfl 0 rfl ?_
      refine tgX12_1 C q_1959 dX12_puddleCount_16 ?_
      refine ts_bipush C dX12_puddleCount_19 82 tb_82 ?_
      refine ts_iload_n C dX12_puddleCount_21 rfl 2 rfl ?_
      refine ts_iadd C dX12_puddleCount_22 ?_
      refine ts_iald C (by decide) shG165 dX12_puddleCount_23 ?_
      refine ts_cm0_ne C rfl 30 dX12_puddleCount_24 rfl ?_ ?_
      · refine ts_aload_n C dX12_puddleCount_30 rfl 0 rfl ?_
        refine ts_iload_n C dX12_puddleCount_31 rfl 2 rfl ?_
        refine ts_callVi C [ts_v y2] (mX12_marksPuddle hl) kX12_marksPuddle q_2250 (by decide) shX12 rfl rfl rfl (Nat.le_of_ble_eq_true rfl) ⟨Nat.le_of_ble_eq_true rfl, Nat.le_of_ble_eq_true rfl⟩ ⟨Nat.le_of_ble_eq_true rfl, Nat.le_of_ble_eq_true rfl⟩ dX12_puddleCount_32 (fun r5 M4 => ?_)
        refine ts_istore_n C dX12_puddleCount_35 rfl (by decide) (lv' := fun x6 => [(3, ts_v x6), (0, .ref (ts_ad g 164)), (1, ts_v y1), (2, ts_v y2)]) (fun _ => rfl) (fun x6 => ?_)
        refine ts_iconst C dX12_puddleCount_36 0 rfl ?_
        refine ts_istore C dX12_puddleCount_37 (by decide) (lv' := fun x7 => [(4, ts_v x7), (3, ts_v x6), (0, .ref (ts_ad g 164)), (1, ts_v y1), (2, ts_v y2)]) (fun _ => rfl) (fun x7 => ?_)
        rintro ⟨n, hn⟩
        exact ts_sub [2, 3, 4, 1, 0] rfl (H39 k9 hk9 n _ _ _ _ _) hn
      · refine ts_goto C 73 dX12_puddleCount_27 rfl ?_
        exact ts_sub [0, 1, 2] rfl (H73 k9 hk9 _ _ _)
  revert h0
  unfold wX12_puddleCount
  have hl0 : lv_args 0 [.ref (ts_ad g 164)] = [(0, .ref (ts_ad g 164))] := rfl
  rw [hl0]
  refine ts_aload_n C dX12_puddleCount_0 rfl 0 rfl ?_
  refine ts_iconst C dX12_puddleCount_1 0 rfl ?_
  refine tpX12_0 C q_1958 dX12_puddleCount_2 (fun M1 => ?_)
  refine ts_iconst C dX12_puddleCount_5 0 rfl ?_
  refine ts_istore_n C dX12_puddleCount_6 rfl (by decide) (lv' := fun x2 => [(1, ts_v x2), (0, .ref (ts_ad g 164))]) (fun _ => rfl) (fun x2 => ?_)
  refine ts_iconst C dX12_puddleCount_7 0 rfl ?_
  refine ts_istore_n C dX12_puddleCount_8 rfl (by decide) (lv' := fun x3 => [(2, ts_v x3), (1, ts_v x2), (0, .ref (ts_ad g 164))]) (fun _ => rfl) (fun x3 => ?_)
  rintro ⟨n, hn⟩
  exact ts_sub [2, 1, 0] rfl (H9 n _ _ _) hn
def wX12_doesNow (Q : Int → ts_M → Prop) (M : ts_M) : Prop :=
  (∀ x1 : Int, x1 = M.1 174 0 → (∀ x2 : Int, x2 = M.1 174 1 → ((ts_w (M.1 164 19) = 97 → (wX12_makesAmendment x1 (fun r4 M3 => Q r4 M3) M)) ∧ (¬ (ts_w (M.1 164 19) = 97) → ((ts_w (M.1 164 19) = 98 → (wX12_votes  (fun r6 M5 => Q r6 M5) M)) ∧ (¬ (ts_w (M.1 164 19) = 98) → ((ts_w (M.1 164 19) = 99 → (wX12_makes 3 (fun r8 M7 => Q r8 M7) M)) ∧ (¬ (ts_w (M.1 164 19) = 99) → ((ts_w (M.1 164 19) = 100 → (wX12_mops x1 x2 (fun r10 M9 => Q r10 M9) M)) ∧ (¬ (ts_w (M.1 164 19) = 100) → ((ts_w (M.1 164 19) = 101 → (wX12_votes  (fun r12 M11 => Q r12 M11) M)) ∧ (¬ (ts_w (M.1 164 19) = 101) → ((ts_w (M.1 164 19) = 102 → (wX12_votes  (fun r14 M13 => Q r14 M13) M)) ∧ (¬ (ts_w (M.1 164 19) = 102) → ((ts_w (M.1 164 19) = 103 → (wX12_votes  (fun r16 M15 => Q r16 M15) M)) ∧ (¬ (ts_w (M.1 164 19) = 103) → ((ts_w (M.1 164 19) = 104 → (wX12_votes  (fun r18 M17 => Q r18 M17) M)) ∧ (¬ (ts_w (M.1 164 19) = 104) → ((ts_w (M.1 164 19) = 105 → (wX12_spills x1 x2 (M.1 174 2) (fun r20 M19 => Q r20 M19) M)) ∧ (¬ (ts_w (M.1 164 19) = 105) → ((ts_w (M.1 164 19) = 106 → (wX12_makes 4 (fun r22 M21 => Q r22 M21) M)) ∧ (¬ (ts_w (M.1 164 19) = 106) → ((ts_w (M.1 164 19) = 107 → (wX12_speaks x1 (fun r24 M23 => Q r24 M23) M)) ∧ (¬ (ts_w (M.1 164 19) = 107) → ((ts_w (M.1 164 19) = 108 → (wX12_votes  (fun r26 M25 => Q r26 M25) M)) ∧ (¬ (ts_w (M.1 164 19) = 108) → ((ts_w (M.1 164 19) = 109 → (wX12_makesMain x1 (fun r28 M27 => Q r28 M27) M)) ∧ (¬ (ts_w (M.1 164 19) = 109) → ((ts_w (M.1 164 19) = 110 → (wX12_votes  (fun r30 M29 => Q r30 M29) M)) ∧ (¬ (ts_w (M.1 164 19) = 110) → ((ts_w (M.1 164 19) = 111 → (wX12_votes  (fun r32 M31 => Q r32 M31) M)) ∧ (¬ (ts_w (M.1 164 19) = 111) → ((ts_w (M.1 164 19) = 112 → (wX12_proposes x1 (fun r34 M33 => Q r34 M33) M)) ∧ (¬ (ts_w (M.1 164 19) = 112) → ((ts_w (M.1 164 19) = 113 → (wX12_makes 2 (fun r36 M35 => Q r36 M35) M)) ∧ (¬ (ts_w (M.1 164 19) = 113) → ((ts_w (M.1 164 19) = 114 → (wX12_votes  (fun r38 M37 => Q r38 M37) M)) ∧ (¬ (ts_w (M.1 164 19) = 114) → ((ts_w (M.1 164 19) = 115 → (wX12_addsSpoon x1 x2 (fun r40 M39 => Q r40 M39) M)) ∧ (¬ (ts_w (M.1 164 19) = 115) → ((ts_w (M.1 164 19) = 116 → (wX12_votes  (fun r42 M41 => Q r42 M41) M)) ∧ (¬ (ts_w (M.1 164 19) = 116) → ((ts_w (M.1 164 19) = 117 → (wX12_gives x1 x2 (fun r44 M43 => Q r44 M43) M)) ∧ (¬ (ts_w (M.1 164 19) = 117) → (wX12_votes  (fun r46 M45 => Q r46 M45) M)))))))))))))))))))))))))))))))))))))))))))))
set_option maxRecDepth 100000 in
set_option maxHeartbeats 4000000 in
theorem mX12_doesNow {l : Launch} {g : ts_W} (hl : l.stackTraces = false) {Q : Int → ts_M → Prop} {M : ts_M} : wX12_doesNow Q M → ts_Con l g yX12_doesNow cX12_doesNow 3 (some .int) 8 0 0 [.ref (ts_ad g 164)] M (ts_Ri Q) := by
  intro h0
  refine ts_Con.of hl (by decide) (Nat.le_of_ble_eq_true rfl) ?_
  intro p e s m args below meth c C
  revert h0
  unfold wX12_doesNow
  have hl0 : lv_args 0 [.ref (ts_ad g 164)] = [(0, .ref (ts_ad g 164))] := rfl
  rw [hl0]
  refine ts_aload_n C dX12_doesNow_0 rfl 0 rfl ?_
  refine tgX12_18 C q_1976 dX12_doesNow_1 ?_
  refine ts_iconst C dX12_doesNow_4 0 rfl ?_
  refine ts_ialdc C (by decide) shG174 tw_0 (by decide) dX12_doesNow_5 ?_
  refine ts_istore_n C dX12_doesNow_6 rfl (by decide) (lv' := fun x1 => [(1, ts_v x1), (0, .ref (ts_ad g 164))]) (fun _ => rfl) (fun x1 => ?_)
  refine ts_aload_n C dX12_doesNow_7 rfl 1 rfl ?_
  refine tgX12_18 C q_1976 dX12_doesNow_8 ?_
  refine ts_iconst C dX12_doesNow_11 1 rfl ?_
  refine ts_ialdc C (by decide) shG174 tw_1 (by decide) dX12_doesNow_12 ?_
  refine ts_istore_n C dX12_doesNow_13 rfl (by decide) (lv' := fun x2 => [(2, ts_v x2), (1, ts_v x1), (0, .ref (ts_ad g 164))]) (fun _ => rfl) (fun x2 => ?_)
  refine ts_aload_n C dX12_doesNow_14 rfl 2 rfl ?_
  refine tgX12_19 C q_1977 dX12_doesNow_15 ?_
  refine ts_case rfl 97 (fun e0 => ?_) (fun e0 => ?_)
  · refine ts_tabIn C 97 e0 174 dX12_doesNow_18 (by decide) (by decide) rfl rfl ?_
    refine ts_aload_n C dX12_doesNow_174 rfl 2 rfl ?_
    refine ts_iload_n C dX12_doesNow_175 rfl 1 rfl ?_
    refine ts_callVi C [ts_v x1] (mX12_makesAmendment hl) kX12_makesAmendment q_2117 (by decide) shX12 rfl rfl rfl (Nat.le_of_ble_eq_true rfl) ⟨Nat.le_of_ble_eq_true rfl, Nat.le_of_ble_eq_true rfl⟩ ⟨Nat.le_of_ble_eq_true rfl, Nat.le_of_ble_eq_true rfl⟩ dX12_doesNow_176 (fun r4 M3 => ?_)
    exact ts_ireti C (Nat.zero_le _) (Nat.zero_le _) dX12_doesNow_179
  · refine ts_case rfl 98 (fun e1 => ?_) (fun e1 => ?_)
    · refine ts_tabIn C 98 e1 192 dX12_doesNow_18 (by decide) (by decide) rfl rfl ?_
      refine ts_aload_n C dX12_doesNow_192 rfl 2 rfl ?_
      refine ts_callVi C [] (mX12_votes hl) kX12_votes q_2165 (by decide) shX12 rfl rfl rfl (Nat.le_of_ble_eq_true rfl) ⟨Nat.le_of_ble_eq_true rfl, Nat.le_of_ble_eq_true rfl⟩ ⟨Nat.le_of_ble_eq_true rfl, Nat.le_of_ble_eq_true rfl⟩ dX12_doesNow_193 (fun r6 M5 => ?_)
      exact ts_ireti C (Nat.zero_le _) (Nat.zero_le _) dX12_doesNow_196
    · refine ts_case rfl 99 (fun e2 => ?_) (fun e2 => ?_)
      · refine ts_tabIn C 99 e2 186 dX12_doesNow_18 (by decide) (by decide) rfl rfl ?_
        refine ts_aload_n C dX12_doesNow_186 rfl 2 rfl ?_
        refine ts_iconst C dX12_doesNow_187 3 rfl ?_
        refine ts_callVi C [ts_v 3] (mX12_makes hl) kX12_makes q_2105 (by decide) shX12 rfl rfl rfl (Nat.le_of_ble_eq_true rfl) ⟨Nat.le_of_ble_eq_true rfl, Nat.le_of_ble_eq_true rfl⟩ ⟨Nat.le_of_ble_eq_true rfl, Nat.le_of_ble_eq_true rfl⟩ dX12_doesNow_188 (fun r8 M7 => ?_)
        exact ts_ireti C (Nat.zero_le _) (Nat.zero_le _) dX12_doesNow_191
      · refine ts_case rfl 100 (fun e3 => ?_) (fun e3 => ?_)
        · refine ts_tabIn C 100 e3 167 dX12_doesNow_18 (by decide) (by decide) rfl rfl ?_
          refine ts_aload_n C dX12_doesNow_167 rfl 2 rfl ?_
          refine ts_iload_n C dX12_doesNow_168 rfl 1 rfl ?_
          refine ts_iload_n C dX12_doesNow_169 rfl 0 rfl ?_
          refine ts_callVi C [ts_v x1, ts_v x2] (mX12_mops hl) kX12_mops q_2270 (by decide) shX12 rfl rfl rfl (Nat.le_of_ble_eq_true rfl) ⟨Nat.le_of_ble_eq_true rfl, Nat.le_of_ble_eq_true rfl⟩ ⟨Nat.le_of_ble_eq_true rfl, Nat.le_of_ble_eq_true rfl⟩ dX12_doesNow_170 (fun r10 M9 => ?_)
          exact ts_ireti C (Nat.zero_le _) (Nat.zero_le _) dX12_doesNow_173
        · refine ts_case rfl 101 (fun e4 => ?_) (fun e4 => ?_)
          · refine ts_tabIn C 101 e4 192 dX12_doesNow_18 (by decide) (by decide) rfl rfl ?_
            refine ts_aload_n C dX12_doesNow_192 rfl 2 rfl ?_
            refine ts_callVi C [] (mX12_votes hl) kX12_votes q_2165 (by decide) shX12 rfl rfl rfl (Nat.le_of_ble_eq_true rfl) ⟨Nat.le_of_ble_eq_true rfl, Nat.le_of_ble_eq_true rfl⟩ ⟨Nat.le_of_ble_eq_true rfl, Nat.le_of_ble_eq_true rfl⟩ dX12_doesNow_193 (fun r12 M11 => ?_)
            exact ts_ireti C (Nat.zero_le _) (Nat.zero_le _) dX12_doesNow_196
          · refine ts_case rfl 102 (fun e5 => ?_) (fun e5 => ?_)
            · refine ts_tabIn C 102 e5 192 dX12_doesNow_18 (by decide) (by decide) rfl rfl ?_
              refine ts_aload_n C dX12_doesNow_192 rfl 2 rfl ?_
              refine ts_callVi C [] (mX12_votes hl) kX12_votes q_2165 (by decide) shX12 rfl rfl rfl (Nat.le_of_ble_eq_true rfl) ⟨Nat.le_of_ble_eq_true rfl, Nat.le_of_ble_eq_true rfl⟩ ⟨Nat.le_of_ble_eq_true rfl, Nat.le_of_ble_eq_true rfl⟩ dX12_doesNow_193 (fun r14 M13 => ?_)
              exact ts_ireti C (Nat.zero_le _) (Nat.zero_le _) dX12_doesNow_196
            · refine ts_case rfl 103 (fun e6 => ?_) (fun e6 => ?_)
              · refine ts_tabIn C 103 e6 192 dX12_doesNow_18 (by decide) (by decide) rfl rfl ?_
                refine ts_aload_n C dX12_doesNow_192 rfl 2 rfl ?_
                refine ts_callVi C [] (mX12_votes hl) kX12_votes q_2165 (by decide) shX12 rfl rfl rfl (Nat.le_of_ble_eq_true rfl) ⟨Nat.le_of_ble_eq_true rfl, Nat.le_of_ble_eq_true rfl⟩ ⟨Nat.le_of_ble_eq_true rfl, Nat.le_of_ble_eq_true rfl⟩ dX12_doesNow_193 (fun r16 M15 => ?_)
                exact ts_ireti C (Nat.zero_le _) (Nat.zero_le _) dX12_doesNow_196
              · refine ts_case rfl 104 (fun e7 => ?_) (fun e7 => ?_)
                · refine ts_tabIn C 104 e7 192 dX12_doesNow_18 (by decide) (by decide) rfl rfl ?_
                  refine ts_aload_n C dX12_doesNow_192 rfl 2 rfl ?_
                  refine ts_callVi C [] (mX12_votes hl) kX12_votes q_2165 (by decide) shX12 rfl rfl rfl (Nat.le_of_ble_eq_true rfl) ⟨Nat.le_of_ble_eq_true rfl, Nat.le_of_ble_eq_true rfl⟩ ⟨Nat.le_of_ble_eq_true rfl, Nat.le_of_ble_eq_true rfl⟩ dX12_doesNow_193 (fun r18 M17 => ?_)
                  exact ts_ireti C (Nat.zero_le _) (Nat.zero_le _) dX12_doesNow_196
                · refine ts_case rfl 105 (fun e8 => ?_) (fun e8 => ?_)
                  · refine ts_tabIn C 105 e8 129 dX12_doesNow_18 (by decide) (by decide) rfl rfl ?_
                    refine ts_aload_n C dX12_doesNow_129 rfl 2 rfl ?_
                    refine ts_iload_n C dX12_doesNow_130 rfl 1 rfl ?_
                    refine ts_iload_n C dX12_doesNow_131 rfl 0 rfl ?_
                    refine ts_aload_n C dX12_doesNow_132 rfl 2 rfl ?_
                    refine tgX12_18 C q_1976 dX12_doesNow_133 ?_
                    refine ts_iconst C dX12_doesNow_136 2 rfl ?_
                    refine ts_ialdc C (by decide) shG174 tw_2 (by decide) dX12_doesNow_137 ?_
                    refine ts_callVi C [ts_v x1, ts_v x2, ts_v (M.1 174 2)] (mX12_spills hl) kX12_spills q_2238 (by decide) shX12 rfl rfl rfl (Nat.le_of_ble_eq_true rfl) ⟨Nat.le_of_ble_eq_true rfl, Nat.le_of_ble_eq_true rfl⟩ ⟨Nat.le_of_ble_eq_true rfl, Nat.le_of_ble_eq_true rfl⟩ dX12_doesNow_138 (fun r20 M19 => ?_)
                    exact ts_ireti C (Nat.zero_le _) (Nat.zero_le _) dX12_doesNow_141
                  · refine ts_case rfl 106 (fun e9 => ?_) (fun e9 => ?_)
                    · refine ts_tabIn C 106 e9 180 dX12_doesNow_18 (by decide) (by decide) rfl rfl ?_
                      refine ts_aload_n C dX12_doesNow_180 rfl 2 rfl ?_
                      refine ts_iconst C dX12_doesNow_181 4 rfl ?_
                      refine ts_callVi C [ts_v 4] (mX12_makes hl) kX12_makes q_2105 (by decide) shX12 rfl rfl rfl (Nat.le_of_ble_eq_true rfl) ⟨Nat.le_of_ble_eq_true rfl, Nat.le_of_ble_eq_true rfl⟩ ⟨Nat.le_of_ble_eq_true rfl, Nat.le_of_ble_eq_true rfl⟩ dX12_doesNow_182 (fun r22 M21 => ?_)
                      exact ts_ireti C (Nat.zero_le _) (Nat.zero_le _) dX12_doesNow_185
                    · refine ts_case rfl 107 (fun e10 => ?_) (fun e10 => ?_)
                      · refine ts_tabIn C 107 e10 123 dX12_doesNow_18 (by decide) (by decide) rfl rfl ?_
                        refine ts_aload_n C dX12_doesNow_123 rfl 2 rfl ?_
                        refine ts_iload_n C dX12_doesNow_124 rfl 1 rfl ?_
                        refine ts_callVi C [ts_v x1] (mX12_speaks hl) kX12_speaks q_2153 (by decide) shX12 rfl rfl rfl (Nat.le_of_ble_eq_true rfl) ⟨Nat.le_of_ble_eq_true rfl, Nat.le_of_ble_eq_true rfl⟩ ⟨Nat.le_of_ble_eq_true rfl, Nat.le_of_ble_eq_true rfl⟩ dX12_doesNow_125 (fun r24 M23 => ?_)
                        exact ts_ireti C (Nat.zero_le _) (Nat.zero_le _) dX12_doesNow_128
                      · refine ts_case rfl 108 (fun e11 => ?_) (fun e11 => ?_)
                        · refine ts_tabIn C 108 e11 192 dX12_doesNow_18 (by decide) (by decide) rfl rfl ?_
                          refine ts_aload_n C dX12_doesNow_192 rfl 2 rfl ?_
                          refine ts_callVi C [] (mX12_votes hl) kX12_votes q_2165 (by decide) shX12 rfl rfl rfl (Nat.le_of_ble_eq_true rfl) ⟨Nat.le_of_ble_eq_true rfl, Nat.le_of_ble_eq_true rfl⟩ ⟨Nat.le_of_ble_eq_true rfl, Nat.le_of_ble_eq_true rfl⟩ dX12_doesNow_193 (fun r26 M25 => ?_)
                          exact ts_ireti C (Nat.zero_le _) (Nat.zero_le _) dX12_doesNow_196
                        · refine ts_case rfl 109 (fun e12 => ?_) (fun e12 => ?_)
                          · refine ts_tabIn C 109 e12 161 dX12_doesNow_18 (by decide) (by decide) rfl rfl ?_
                            refine ts_aload_n C dX12_doesNow_161 rfl 2 rfl ?_
                            refine ts_iload_n C dX12_doesNow_162 rfl 1 rfl ?_
                            refine ts_callVi C [ts_v x1] (mX12_makesMain hl) kX12_makesMain q_2101 (by decide) shX12 rfl rfl rfl (Nat.le_of_ble_eq_true rfl) ⟨Nat.le_of_ble_eq_true rfl, Nat.le_of_ble_eq_true rfl⟩ ⟨Nat.le_of_ble_eq_true rfl, Nat.le_of_ble_eq_true rfl⟩ dX12_doesNow_163 (fun r28 M27 => ?_)
                            exact ts_ireti C (Nat.zero_le _) (Nat.zero_le _) dX12_doesNow_166
                          · refine ts_case rfl 110 (fun e13 => ?_) (fun e13 => ?_)
                            · refine ts_tabIn C 110 e13 192 dX12_doesNow_18 (by decide) (by decide) rfl rfl ?_
                              refine ts_aload_n C dX12_doesNow_192 rfl 2 rfl ?_
                              refine ts_callVi C [] (mX12_votes hl) kX12_votes q_2165 (by decide) shX12 rfl rfl rfl (Nat.le_of_ble_eq_true rfl) ⟨Nat.le_of_ble_eq_true rfl, Nat.le_of_ble_eq_true rfl⟩ ⟨Nat.le_of_ble_eq_true rfl, Nat.le_of_ble_eq_true rfl⟩ dX12_doesNow_193 (fun r30 M29 => ?_)
                              exact ts_ireti C (Nat.zero_le _) (Nat.zero_le _) dX12_doesNow_196
                            · refine ts_case rfl 111 (fun e14 => ?_) (fun e14 => ?_)
                              · refine ts_tabIn C 111 e14 192 dX12_doesNow_18 (by decide) (by decide) rfl rfl ?_
                                refine ts_aload_n C dX12_doesNow_192 rfl 2 rfl ?_
                                refine ts_callVi C [] (mX12_votes hl) kX12_votes q_2165 (by decide) shX12 rfl rfl rfl (Nat.le_of_ble_eq_true rfl) ⟨Nat.le_of_ble_eq_true rfl, Nat.le_of_ble_eq_true rfl⟩ ⟨Nat.le_of_ble_eq_true rfl, Nat.le_of_ble_eq_true rfl⟩ dX12_doesNow_193 (fun r32 M31 => ?_)
                                exact ts_ireti C (Nat.zero_le _) (Nat.zero_le _) dX12_doesNow_196
                              · refine ts_case rfl 112 (fun e15 => ?_) (fun e15 => ?_)
                                · refine ts_tabIn C 112 e15 149 dX12_doesNow_18 (by decide) (by decide) rfl rfl ?_
                                  refine ts_aload_n C dX12_doesNow_149 rfl 2 rfl ?_
                                  refine ts_iload_n C dX12_doesNow_150 rfl 1 rfl ?_
                                  refine ts_callVi C [ts_v x1] (mX12_proposes hl) kX12_proposes q_2069 (by decide) shX12 rfl rfl rfl (Nat.le_of_ble_eq_true rfl) ⟨Nat.le_of_ble_eq_true rfl, Nat.le_of_ble_eq_true rfl⟩ ⟨Nat.le_of_ble_eq_true rfl, Nat.le_of_ble_eq_true rfl⟩ dX12_doesNow_151 (fun r34 M33 => ?_)
                                  exact ts_ireti C (Nat.zero_le _) (Nat.zero_le _) dX12_doesNow_154
                                · refine ts_case rfl 113 (fun e16 => ?_) (fun e16 => ?_)
                                  · refine ts_tabIn C 113 e16 155 dX12_doesNow_18 (by decide) (by decide) rfl rfl ?_
                                    refine ts_aload_n C dX12_doesNow_155 rfl 2 rfl ?_
                                    refine ts_iconst C dX12_doesNow_156 2 rfl ?_
                                    refine ts_callVi C [ts_v 2] (mX12_makes hl) kX12_makes q_2105 (by decide) shX12 rfl rfl rfl (Nat.le_of_ble_eq_true rfl) ⟨Nat.le_of_ble_eq_true rfl, Nat.le_of_ble_eq_true rfl⟩ ⟨Nat.le_of_ble_eq_true rfl, Nat.le_of_ble_eq_true rfl⟩ dX12_doesNow_157 (fun r36 M35 => ?_)
                                    exact ts_ireti C (Nat.zero_le _) (Nat.zero_le _) dX12_doesNow_160
                                  · refine ts_case rfl 114 (fun e17 => ?_) (fun e17 => ?_)
                                    · refine ts_tabIn C 114 e17 192 dX12_doesNow_18 (by decide) (by decide) rfl rfl ?_
                                      refine ts_aload_n C dX12_doesNow_192 rfl 2 rfl ?_
                                      refine ts_callVi C [] (mX12_votes hl) kX12_votes q_2165 (by decide) shX12 rfl rfl rfl (Nat.le_of_ble_eq_true rfl) ⟨Nat.le_of_ble_eq_true rfl, Nat.le_of_ble_eq_true rfl⟩ ⟨Nat.le_of_ble_eq_true rfl, Nat.le_of_ble_eq_true rfl⟩ dX12_doesNow_193 (fun r38 M37 => ?_)
                                      exact ts_ireti C (Nat.zero_le _) (Nat.zero_le _) dX12_doesNow_196
                                    · refine ts_case rfl 115 (fun e18 => ?_) (fun e18 => ?_)
                                      · refine ts_tabIn C 115 e18 116 dX12_doesNow_18 (by decide) (by decide) rfl rfl ?_
                                        refine ts_aload_n C dX12_doesNow_116 rfl 2 rfl ?_
                                        refine ts_iload_n C dX12_doesNow_117 rfl 1 rfl ?_
                                        refine ts_iload_n C dX12_doesNow_118 rfl 0 rfl ?_
                                        refine ts_callVi C [ts_v x1, ts_v x2] (mX12_addsSpoon hl) kX12_addsSpoon q_2053 (by decide) shX12 rfl rfl rfl (Nat.le_of_ble_eq_true rfl) ⟨Nat.le_of_ble_eq_true rfl, Nat.le_of_ble_eq_true rfl⟩ ⟨Nat.le_of_ble_eq_true rfl, Nat.le_of_ble_eq_true rfl⟩ dX12_doesNow_119 (fun r40 M39 => ?_)
                                        exact ts_ireti C (Nat.zero_le _) (Nat.zero_le _) dX12_doesNow_122
                                      · refine ts_case rfl 116 (fun e19 => ?_) (fun e19 => ?_)
                                        · refine ts_tabIn C 116 e19 192 dX12_doesNow_18 (by decide) (by decide) rfl rfl ?_
                                          refine ts_aload_n C dX12_doesNow_192 rfl 2 rfl ?_
                                          refine ts_callVi C [] (mX12_votes hl) kX12_votes q_2165 (by decide) shX12 rfl rfl rfl (Nat.le_of_ble_eq_true rfl) ⟨Nat.le_of_ble_eq_true rfl, Nat.le_of_ble_eq_true rfl⟩ ⟨Nat.le_of_ble_eq_true rfl, Nat.le_of_ble_eq_true rfl⟩ dX12_doesNow_193 (fun r42 M41 => ?_)
                                          exact ts_ireti C (Nat.zero_le _) (Nat.zero_le _) dX12_doesNow_196
                                        · refine ts_case rfl 117 (fun e20 => ?_) (fun e20 => ?_)
                                          · refine ts_tabIn C 117 e20 142 dX12_doesNow_18 (by decide) (by decide) rfl rfl ?_
                                            refine ts_aload_n C dX12_doesNow_142 rfl 2 rfl ?_
                                            refine ts_iload_n C dX12_doesNow_143 rfl 1 rfl ?_
                                            refine ts_iload_n C dX12_doesNow_144 rfl 0 rfl ?_
                                            refine ts_callVi C [ts_v x1, ts_v x2] (mX12_gives hl) kX12_gives q_2282 (by decide) shX12 rfl rfl rfl (Nat.le_of_ble_eq_true rfl) ⟨Nat.le_of_ble_eq_true rfl, Nat.le_of_ble_eq_true rfl⟩ ⟨Nat.le_of_ble_eq_true rfl, Nat.le_of_ble_eq_true rfl⟩ dX12_doesNow_145 (fun r44 M43 => ?_)
                                            exact ts_ireti C (Nat.zero_le _) (Nat.zero_le _) dX12_doesNow_148
                                          · refine ts_tabOut C 192 dX12_doesNow_18 (by omega) rfl ?_
                                            refine ts_aload_n C dX12_doesNow_192 rfl 2 rfl ?_
                                            refine ts_callVi C [] (mX12_votes hl) kX12_votes q_2165 (by decide) shX12 rfl rfl rfl (Nat.le_of_ble_eq_true rfl) ⟨Nat.le_of_ble_eq_true rfl, Nat.le_of_ble_eq_true rfl⟩ ⟨Nat.le_of_ble_eq_true rfl, Nat.le_of_ble_eq_true rfl⟩ dX12_doesNow_193 (fun r46 M45 => ?_)
                                            exact ts_ireti C (Nat.zero_le _) (Nat.zero_le _) dX12_doesNow_196
def wX12_doesAll_L12   (Q : Int → ts_M → Prop) (k12 : Int → ts_M → Prop) (y1 : Int) (M : ts_M) : Prop :=
  ((ts_w y1 = 0 → Q 1 M) ∧ (¬ (ts_w y1 = 0) → (wX12_readsCommand  (fun r5 M4 => (wX12_notNow  (fun r7 M6 => ((ts_w r7 = 0 → (wX12_doesNow  (fun r9 M8 => (∀ M10, M10 = ts_si M8 164 20 ((M8.1 164 20) + 1) → (wX12_reads 59 (fun r12 M11 => (∀ x13 : Int, x13 = r12 → k12 x13 M11)) M10))) M6)) ∧ (¬ (ts_w r7 = 0) → Q 0 M6))) M4)) M)))
def wX12_doesAll (Q : Int → ts_M → Prop) (M : ts_M) : Prop :=
  (∀ M1, M1 = ts_si M 164 20 0 → (∀ M2, M2 = ts_si M1 164 15 0 → (∀ x3 : Int, x3 = 1 → ∃ n, ts_lp1 (wX12_doesAll_L12 Q) n x3 M2)))
set_option maxRecDepth 100000 in
set_option maxHeartbeats 4000000 in
theorem mX12_doesAll {l : Launch} {g : ts_W} (hl : l.stackTraces = false) {Q : Int → ts_M → Prop} {M : ts_M} : wX12_doesAll Q M → ts_Con l g yX12_doesAll cX12_doesAll 2 (some .boolean) 9 0 0 [.ref (ts_ad g 164)] M (ts_Ri Q) := by
  intro h0
  refine ts_Con.of hl (by decide) (Nat.le_of_ble_eq_true rfl) ?_
  intro p e s m args below meth c C
  have H12 : ∀ (n : Nat) (y1 : Int) (M : ts_M), ts_lp1 (wX12_doesAll_L12   Q) n y1 M → ts_V p l e (ts_rm 9 0 0) s m args below meth c g 2 0 0 (MQ below (ts_Q g (ts_Ri Q)) args s 0 0 (ts_A g)) 12 [(0, .ref (ts_ad g 164)), (1, ts_v y1)] [] M := by
    refine ts_lpr1 (V := fun (y1 : Int) (M : ts_M) => ts_V p l e (ts_rm 9 0 0) s m args below meth c g 2 0 0 (MQ below (ts_Q g (ts_Ri Q)) args s 0 0 (ts_A g)) 12 [(0, .ref (ts_ad g 164)), (1, ts_v y1)] [] M) ?_
    intro k12 hk12 y1 M
    unfold wX12_doesAll_L12
    refine ts_iload_n C dX12_doesAll_12 rfl 1 rfl ?_
    refine ts_cm0_eq C rfl 55 dX12_doesAll_13 rfl ?_ ?_
    · refine ts_iconst C dX12_doesAll_55 1 rfl ?_
      exact ts_zretci C (by decide) (Nat.zero_le _) (Nat.zero_le _) dX12_doesAll_56
    · refine ts_aload_n C dX12_doesAll_16 rfl 0 rfl ?_
      refine ts_callVi C [] (mX12_readsCommand hl) kX12_readsCommand q_2513 (by decide) shX12 rfl rfl rfl (Nat.le_of_ble_eq_true rfl) ⟨Nat.le_of_ble_eq_true rfl, Nat.le_of_ble_eq_true rfl⟩ ⟨Nat.le_of_ble_eq_true rfl, Nat.le_of_ble_eq_true rfl⟩ dX12_doesAll_17 (fun r5 M4 => ?_)
      refine ts_pop C dX12_doesAll_20 rfl ?_
      refine ts_aload_n C dX12_doesAll_21 rfl 0 rfl ?_
      refine ts_callVi C [] (mX12_notNow hl) kX12_notNow q_2557 (by decide) shX12 rfl rfl rfl (Nat.le_of_ble_eq_true rfl) ⟨Nat.le_of_ble_eq_true rfl, Nat.le_of_ble_eq_true rfl⟩ ⟨Nat.le_of_ble_eq_true rfl, Nat.le_of_ble_eq_true rfl⟩ dX12_doesAll_22 (fun r7 M6 => ?_)
      refine ts_cm0_eq C rfl 30 dX12_doesAll_25 rfl ?_ ?_
      · refine ts_aload_n C dX12_doesAll_30 rfl 0 rfl ?_
        refine ts_callVi C [] (mX12_doesNow hl) kX12_doesNow q_2565 (by decide) shX12 rfl rfl rfl (Nat.le_of_ble_eq_true rfl) ⟨Nat.le_of_ble_eq_true rfl, Nat.le_of_ble_eq_true rfl⟩ ⟨Nat.le_of_ble_eq_true rfl, Nat.le_of_ble_eq_true rfl⟩ dX12_doesAll_31 (fun r9 M8 => ?_)
        refine ts_pop C dX12_doesAll_34 rfl ?_
        refine ts_aload_n C dX12_doesAll_35 rfl 0 rfl ?_
        refine ts_dup C dX12_doesAll_36 rfl ?_
        refine tgX12_20 C q_1978 dX12_doesAll_37 ?_
        refine ts_iconst C dX12_doesAll_40 1 rfl ?_
        refine ts_iadd C dX12_doesAll_41 ?_
        refine tpX12_20 C q_1978 dX12_doesAll_42 (fun M10 => ?_)
        refine ts_aload_n C dX12_doesAll_45 rfl 0 rfl ?_
        refine ts_bipush C dX12_doesAll_46 59 tb_59 ?_
        refine ts_callVi C [ts_v 59] (mX12_reads hl) kX12_reads q_2521 (by decide) shX12 rfl rfl rfl (Nat.le_of_ble_eq_true rfl) ⟨Nat.le_of_ble_eq_true rfl, Nat.le_of_ble_eq_true rfl⟩ ⟨Nat.le_of_ble_eq_true rfl, Nat.le_of_ble_eq_true rfl⟩ dX12_doesAll_48 (fun r12 M11 => ?_)
        refine ts_istore_n C dX12_doesAll_51 rfl (by decide) (lv' := fun x13 => [(1, ts_v x13), (0, .ref (ts_ad g 164))]) (fun _ => rfl) (fun x13 => ?_)
        refine ts_goto C 12 dX12_doesAll_52 rfl ?_
        exact ts_sub [1, 0] rfl (hk12 _ _)
      · refine ts_iconst C dX12_doesAll_28 0 rfl ?_
        exact ts_zretci C (by decide) (Nat.zero_le _) (Nat.zero_le _) dX12_doesAll_29
  revert h0
  unfold wX12_doesAll
  have hl0 : lv_args 0 [.ref (ts_ad g 164)] = [(0, .ref (ts_ad g 164))] := rfl
  rw [hl0]
  refine ts_aload_n C dX12_doesAll_0 rfl 0 rfl ?_
  refine ts_iconst C dX12_doesAll_1 0 rfl ?_
  refine tpX12_20 C q_1978 dX12_doesAll_2 (fun M1 => ?_)
  refine ts_aload_n C dX12_doesAll_5 rfl 0 rfl ?_
  refine ts_iconst C dX12_doesAll_6 0 rfl ?_
  refine tpX12_15 C q_1973 dX12_doesAll_7 (fun M2 => ?_)
  refine ts_iconst C dX12_doesAll_10 1 rfl ?_
  refine ts_istore_n C dX12_doesAll_11 rfl (by decide) (lv' := fun x3 => [(1, ts_v x3), (0, .ref (ts_ad g 164))]) (fun _ => rfl) (fun x3 => ?_)
  rintro ⟨n, hn⟩
  exact ts_sub [1, 0] rfl (H12 n _ _) hn
def wX12_runScript (Q : Int → ts_M → Prop) (M : ts_M) : Prop :=
  (∀ M1, M1 = ts_si M 164 0 0 → (wX12_readsAll  (fun r3 M2 => ((¬ (ts_w r3 = 0) → (wX12_copies  (fun M4 => (wX12_doesAll  (fun r6 M5 => (∀ x7 : Int, x7 = r6 → (∀ M8, M8 = ts_si M5 164 14 0 → ((ts_w x7 = 0 → (wX12_goesBack  (fun M9 => (∀ M10, M10 = ts_si M9 164 17 (M9.1 164 20) → (wX12_fails 2 (fun r12 M11 => Q r12 M11) M10))) M8)) ∧ (¬ (ts_w x7 = 0) → (wX12_keeps  (fun M13 => Q (M13.1 164 20) M13) M8)))))) M4)) M2)) ∧ (ts_w r3 = 0 → (∀ M14, M14 = ts_si M2 164 16 (M2.1 164 15) → (∀ M15, M15 = ts_si M14 164 14 0 → (wX12_fails 1 (fun r17 M16 => Q r17 M16) M15)))))) M1))
set_option maxRecDepth 100000 in
set_option maxHeartbeats 4000000 in
theorem mX12_runScript {l : Launch} {g : ts_W} (hl : l.stackTraces = false) {Q : Int → ts_M → Prop} {M : ts_M} : wX12_runScript Q M → ts_Con l g yX12_runScript cX12_runScript 2 (some .int) 10 0 0 [.ref (ts_ad g 164)] M (ts_Ri Q) := by
  intro h0
  refine ts_Con.of hl (by decide) (Nat.le_of_ble_eq_true rfl) ?_
  intro p e s m args below meth c C
  revert h0
  unfold wX12_runScript
  have hl0 : lv_args 0 [.ref (ts_ad g 164)] = [(0, .ref (ts_ad g 164))] := rfl
  rw [hl0]
  refine ts_aload_n C dX12_runScript_0 rfl 0 rfl ?_
  refine ts_iconst C dX12_runScript_1 0 rfl ?_
  refine tpX12_0 C q_1958 dX12_runScript_2 (fun M1 => ?_)
  refine ts_aload_n C dX12_runScript_5 rfl 0 rfl ?_
  refine ts_callVi C [] (mX12_readsAll hl) kX12_readsAll q_2509 (by decide) shX12 rfl rfl rfl (Nat.le_of_ble_eq_true rfl) ⟨Nat.le_of_ble_eq_true rfl, Nat.le_of_ble_eq_true rfl⟩ ⟨Nat.le_of_ble_eq_true rfl, Nat.le_of_ble_eq_true rfl⟩ dX12_runScript_6 (fun r3 M2 => ?_)
  refine ts_cm0_ne C rfl 31 dX12_runScript_9 rfl ?_ ?_
  · refine ts_aload_n C dX12_runScript_31 rfl 0 rfl ?_
    refine ts_callVv C [] (mX12_copies hl) kX12_copies q_2045 (by decide) shX12 rfl rfl rfl (Nat.le_of_ble_eq_true rfl) ⟨Nat.le_of_ble_eq_true rfl, Nat.le_of_ble_eq_true rfl⟩ ⟨Nat.le_of_ble_eq_true rfl, Nat.le_of_ble_eq_true rfl⟩ dX12_runScript_32 (fun M4 => ?_)
    refine ts_aload_n C dX12_runScript_35 rfl 0 rfl ?_
    refine ts_callVi C [] (mX12_doesAll hl) kX12_doesAll q_2553 (by decide) shX12 rfl rfl rfl (Nat.le_of_ble_eq_true rfl) ⟨Nat.le_of_ble_eq_true rfl, Nat.le_of_ble_eq_true rfl⟩ ⟨Nat.le_of_ble_eq_true rfl, Nat.le_of_ble_eq_true rfl⟩ dX12_runScript_36 (fun r6 M5 => ?_)
    refine ts_istore_n C dX12_runScript_39 rfl (by decide) (lv' := fun x7 => [(1, ts_v x7), (0, .ref (ts_ad g 164))]) (fun _ => rfl) (fun x7 => ?_)
    refine ts_aload_n C dX12_runScript_40 rfl 1 rfl ?_
    refine ts_iconst C dX12_runScript_41 0 rfl ?_
    refine tpX12_14 C q_1972 dX12_runScript_42 (fun M8 => ?_)
    refine ts_iload_n C dX12_runScript_45 rfl 0 rfl ?_
    refine ts_cm0_eq C rfl 58 dX12_runScript_46 rfl ?_ ?_
    · refine ts_aload_n C dX12_runScript_58 rfl 1 rfl ?_
      refine ts_callVv C [] (mX12_goesBack hl) kX12_goesBack q_2569 (by decide) shX12 rfl rfl rfl (Nat.le_of_ble_eq_true rfl) ⟨Nat.le_of_ble_eq_true rfl, Nat.le_of_ble_eq_true rfl⟩ ⟨Nat.le_of_ble_eq_true rfl, Nat.le_of_ble_eq_true rfl⟩ dX12_runScript_59 (fun M9 => ?_)
      refine ts_aload_n C dX12_runScript_62 rfl 1 rfl ?_
      refine ts_aload_n C dX12_runScript_63 rfl 1 rfl ?_
      refine tgX12_20 C q_1978 dX12_runScript_64 ?_
      refine tpX12_17 C q_1975 dX12_runScript_67 (fun M10 => ?_)
      refine ts_aload_n C dX12_runScript_70 rfl 1 rfl ?_
      refine ts_iconst C dX12_runScript_71 2 rfl ?_
      refine ts_callVi C [ts_v 2] (mX12_fails hl) kX12_fails q_2037 (by decide) shX12 rfl rfl rfl (Nat.le_of_ble_eq_true rfl) ⟨Nat.le_of_ble_eq_true rfl, Nat.le_of_ble_eq_true rfl⟩ ⟨Nat.le_of_ble_eq_true rfl, Nat.le_of_ble_eq_true rfl⟩ dX12_runScript_72 (fun r12 M11 => ?_)
      exact ts_ireti C (Nat.zero_le _) (Nat.zero_le _) dX12_runScript_75
    · refine ts_aload_n C dX12_runScript_49 rfl 1 rfl ?_
      refine ts_callVv C [] (mX12_keeps hl) kX12_keeps q_2049 (by decide) shX12 rfl rfl rfl (Nat.le_of_ble_eq_true rfl) ⟨Nat.le_of_ble_eq_true rfl, Nat.le_of_ble_eq_true rfl⟩ ⟨Nat.le_of_ble_eq_true rfl, Nat.le_of_ble_eq_true rfl⟩ dX12_runScript_50 (fun M13 => ?_)
      refine ts_aload_n C dX12_runScript_53 rfl 1 rfl ?_
      refine tgX12_20 C q_1978 dX12_runScript_54 ?_
      exact ts_ireti C (Nat.zero_le _) (Nat.zero_le _) dX12_runScript_57
  · refine ts_aload_n C dX12_runScript_12 rfl 0 rfl ?_
    refine ts_aload_n C dX12_runScript_13 rfl 0 rfl ?_
    refine tgX12_15 C q_1973 dX12_runScript_14 ?_
    refine tpX12_16 C q_1974 dX12_runScript_17 (fun M14 => ?_)
    refine ts_aload_n C dX12_runScript_20 rfl 0 rfl ?_
    refine ts_iconst C dX12_runScript_21 0 rfl ?_
    refine tpX12_14 C q_1972 dX12_runScript_22 (fun M15 => ?_)
    refine ts_aload_n C dX12_runScript_25 rfl 0 rfl ?_
    refine ts_iconst C dX12_runScript_26 1 rfl ?_
    refine ts_callVi C [ts_v 1] (mX12_fails hl) kX12_fails q_2037 (by decide) shX12 rfl rfl rfl (Nat.le_of_ble_eq_true rfl) ⟨Nat.le_of_ble_eq_true rfl, Nat.le_of_ble_eq_true rfl⟩ ⟨Nat.le_of_ble_eq_true rfl, Nat.le_of_ble_eq_true rfl⟩ dX12_runScript_27 (fun r17 M16 => ?_)
    exact ts_ireti C (Nat.zero_le _) (Nat.zero_le _) dX12_runScript_30
def wX1_spread_B74 (b : Nat) (k6 : Int → Int → Int → Int → ts_M → Prop) (k16 : Int → Int → Int → Int → Int → ts_M → Prop) (Q : ts_M → Prop)  (y1 : Int) (y2 : Int) (y4 : Int) (y5 : Int) (y6 : Int) (M : ts_M) : Prop :=
  (∀ x8 : Int, x8 = y6 + 1 → k16 y1 y2 y4 y5 x8 M)
def wX1_spread_L16 (b : Nat) (k6 : Int → Int → Int → Int → ts_M → Prop) (Q : ts_M → Prop) (k16 : Int → Int → Int → Int → Int → ts_M → Prop) (y1 : Int) (y2 : Int) (y4 : Int) (y5 : Int) (y6 : Int) (M : ts_M) : Prop :=
  ((8 ≤ ts_w y6 → (∀ x4 : Int, x4 = y5 + 1 → k6 y1 y2 y4 x4 M)) ∧ (¬ (8 ≤ ts_w y6) → (wJ9_abs_0f7a4 (y6 - y1) (fun r6 M5 => (∀ x7 : Int, x7 = y5 - r6 → ((ts_w x7 < 0 → wX1_spread_B74 b k6 k16 Q y1 y2 y4 y5 y6 M5) ∧ (¬ (ts_w x7 < 0) → (wX1_moisten b y6 (y2 - x7) y4 (fun r10 M9 => (∀ x11 : Int, x11 = y4 - r10 → (wX1_moisten b y6 (y2 + x7) x11 (fun r13 M12 => (∀ x14 : Int, x14 = x11 - r13 → wX1_spread_B74 b k6 k16 Q y1 y2 x14 y5 y6 M12)) M9))) M5))))) M)))
def wX1_spread_L6 (b : Nat)  (Q : ts_M → Prop) (k6 : Int → Int → Int → Int → ts_M → Prop) (y1 : Int) (y2 : Int) (y4 : Int) (y5 : Int) (M : ts_M) : Prop :=
  ((14 < ts_w y5 → Q M) ∧ (¬ (14 < ts_w y5) → (∀ x3 : Int, x3 = 0 → ∃ n, ts_lp5 (wX1_spread_L16 b k6 Q) n y1 y2 y4 y5 x3 M)))
def wX1_spread (b : Nat) (p1 : Int) (p2 : Int) (p3 : Int) (Q : ts_M → Prop) (M : ts_M) : Prop :=
  (∀ x1 : Int, x1 = p3 → (∀ x2 : Int, x2 = 0 → ∃ n, ts_lp4 (wX1_spread_L6 b Q) n p1 p2 x1 x2 M))
set_option maxRecDepth 100000 in
set_option maxHeartbeats 4000000 in
theorem mX1_spread {l : Launch} {g : ts_W} (hl : l.stackTraces = false) {b : Nat} (hb : ts_isS b) {p1 : Int} {p2 : Int} {p3 : Int} {Q : ts_M → Prop} {M : ts_M} : wX1_spread b p1 p2 p3 Q M → ts_Con l g yX1_spread cX1_spread 8 none 3 0 0 [.ref (ts_ad g (b + 11)), ts_v p1, ts_v p2, ts_v p3] M (ts_Rv Q) := by
  intro h0
  refine ts_Con.of hl (by decide) (Nat.le_of_ble_eq_true rfl) ?_
  intro p e s m args below meth c C
  have H74 : ∀ (k6 : Int → Int → Int → Int → ts_M → Prop) (hk6 : ∀ (y1 : Int) (y2 : Int) (y4 : Int) (y5 : Int) (M : ts_M), k6 y1 y2 y4 y5 M → ts_V p l e (ts_rm 3 0 0) s m args below meth c g 8 0 0 (MQ below (ts_Q g (ts_Rv Q)) args s 0 0 (ts_A g)) 6 [(0, .ref (ts_ad g (b + 11))), (1, ts_v y1), (2, ts_v y2), (4, ts_v y4), (5, ts_v y5)] [] M) (k16 : Int → Int → Int → Int → Int → ts_M → Prop) (hk16 : ∀ (y1 : Int) (y2 : Int) (y4 : Int) (y5 : Int) (y6 : Int) (M : ts_M), k16 y1 y2 y4 y5 y6 M → ts_V p l e (ts_rm 3 0 0) s m args below meth c g 8 0 0 (MQ below (ts_Q g (ts_Rv Q)) args s 0 0 (ts_A g)) 16 [(0, .ref (ts_ad g (b + 11))), (1, ts_v y1), (2, ts_v y2), (4, ts_v y4), (5, ts_v y5), (6, ts_v y6)] [] M) (y1 : Int) (y2 : Int) (y4 : Int) (y5 : Int) (y6 : Int) (M : ts_M), wX1_spread_B74 b k6 k16 Q y1 y2 y4 y5 y6 M → ts_V p l e (ts_rm 3 0 0) s m args below meth c g 8 0 0 (MQ below (ts_Q g (ts_Rv Q)) args s 0 0 (ts_A g)) 74 [(0, .ref (ts_ad g (b + 11))), (1, ts_v y1), (2, ts_v y2), (4, ts_v y4), (5, ts_v y5), (6, ts_v y6)] [] M := by
    intro k6 hk6 k16 hk16 y1 y2 y4 y5 y6 M
    unfold wX1_spread_B74
    refine ts_iinc C dX1_spread_74 5 rfl (by decide) (lv' := fun x8 => [(6, ts_v x8), (0, .ref (ts_ad g (b + 11))), (1, ts_v y1), (2, ts_v y2), (4, ts_v y4), (5, ts_v y5)]) (fun _ => rfl) (fun x8 => ?_)
    refine ts_goto C 16 dX1_spread_77 rfl ?_
    exact ts_sub [1, 2, 3, 4, 5, 0] rfl (hk16 _ _ _ _ _ _)
  have H16 : ∀ (k6 : Int → Int → Int → Int → ts_M → Prop) (hk6 : ∀ (y1 : Int) (y2 : Int) (y4 : Int) (y5 : Int) (M : ts_M), k6 y1 y2 y4 y5 M → ts_V p l e (ts_rm 3 0 0) s m args below meth c g 8 0 0 (MQ below (ts_Q g (ts_Rv Q)) args s 0 0 (ts_A g)) 6 [(0, .ref (ts_ad g (b + 11))), (1, ts_v y1), (2, ts_v y2), (4, ts_v y4), (5, ts_v y5)] [] M) (n : Nat) (y1 : Int) (y2 : Int) (y4 : Int) (y5 : Int) (y6 : Int) (M : ts_M), ts_lp5 (wX1_spread_L16 b k6 Q) n y1 y2 y4 y5 y6 M → ts_V p l e (ts_rm 3 0 0) s m args below meth c g 8 0 0 (MQ below (ts_Q g (ts_Rv Q)) args s 0 0 (ts_A g)) 16 [(0, .ref (ts_ad g (b + 11))), (1, ts_v y1), (2, ts_v y2), (4, ts_v y4), (5, ts_v y5), (6, ts_v y6)] [] M := by
    intro k6 hk6
    refine ts_lpr5 (V := fun (y1 : Int) (y2 : Int) (y4 : Int) (y5 : Int) (y6 : Int) (M : ts_M) => ts_V p l e (ts_rm 3 0 0) s m args below meth c g 8 0 0 (MQ below (ts_Q g (ts_Rv Q)) args s 0 0 (ts_A g)) 16 [(0, .ref (ts_ad g (b + 11))), (1, ts_v y1), (2, ts_v y2), (4, ts_v y4), (5, ts_v y5), (6, ts_v y6)] [] M) ?_
    intro k16 hk16 y1 y2 y4 y5 y6 M
    unfold wX1_spread_L16
    refine ts_iload C dX1_spread_16 5 rfl ?_
    refine ts_bipush C dX1_spread_18 8 tb_8 ?_
    refine ts_cmp_ge C rfl tw_8 80 dX1_spread_20 rfl ?_ ?_
    · refine ts_iinc C dX1_spread_80 4 rfl (by decide) (lv' := fun x4 => [(5, ts_v x4), (0, .ref (ts_ad g (b + 11))), (1, ts_v y1), (2, ts_v y2), (4, ts_v y4), (6, ts_v y6)]) (fun _ => rfl) (fun x4 => ?_)
      refine ts_goto C 6 dX1_spread_83 rfl ?_
      exact ts_sub [1, 2, 3, 4, 0] rfl (hk6 _ _ _ _ _)
    · refine ts_iload C dX1_spread_23 4 rfl ?_
      refine ts_iload C dX1_spread_25 5 rfl ?_
      refine ts_iload_n C dX1_spread_27 rfl 1 rfl ?_
      refine ts_isub C dX1_spread_28 ?_
      refine ts_callSi C [ts_v (y6 - y1)] (mJ9_abs_0f7a4 hl) kJ9_abs_0f7a4 q_1377 rfl rfl (Nat.le_of_ble_eq_true rfl) ⟨Nat.le_of_ble_eq_true rfl, Nat.le_of_ble_eq_true rfl⟩ ⟨Nat.le_of_ble_eq_true rfl, Nat.le_of_ble_eq_true rfl⟩ dX1_spread_29 (fun r6 M5 => ?_)
      refine ts_isub C dX1_spread_32 ?_
      refine ts_istore C dX1_spread_33 (by decide) (lv' := fun x7 => [(7, ts_v x7), (0, .ref (ts_ad g (b + 11))), (1, ts_v y1), (2, ts_v y2), (4, ts_v y4), (5, ts_v y5), (6, ts_v y6)]) (fun _ => rfl) (fun x7 => ?_)
      refine ts_iload C dX1_spread_35 0 rfl ?_
      refine ts_cm0_lt C rfl 74 dX1_spread_37 rfl ?_ ?_
      · exact ts_sub [1, 2, 3, 4, 5, 6] rfl (H74 k6 hk6 k16 hk16 _ _ _ _ _ _)
      · refine ts_iload C dX1_spread_40 4 rfl ?_
        refine ts_aload_n C dX1_spread_42 rfl 1 rfl ?_
        refine ts_iload C dX1_spread_43 6 rfl ?_
        refine ts_iload_n C dX1_spread_45 rfl 3 rfl ?_
        refine ts_iload C dX1_spread_46 0 rfl ?_
        refine ts_isub C dX1_spread_48 ?_
        refine ts_iload C dX1_spread_49 4 rfl ?_
        refine ts_callVi C [ts_v y6, ts_v (y2 - x7), ts_v y4] (mX1_moisten hl hb) kX1_moisten q_1378 (ts_lt hb 11 (by decide)) (shX1 hb) rfl rfl rfl (Nat.le_of_ble_eq_true rfl) ⟨Nat.le_of_ble_eq_true rfl, Nat.le_of_ble_eq_true rfl⟩ ⟨Nat.le_of_ble_eq_true rfl, Nat.le_of_ble_eq_true rfl⟩ dX1_spread_51 (fun r10 M9 => ?_)
        refine ts_isub C dX1_spread_54 ?_
        refine ts_istore C dX1_spread_55 (by decide) (lv' := fun x11 => [(4, ts_v x11), (7, ts_v x7), (0, .ref (ts_ad g (b + 11))), (1, ts_v y1), (2, ts_v y2), (5, ts_v y5), (6, ts_v y6)]) (fun _ => rfl) (fun x11 => ?_)
        refine ts_iload C dX1_spread_57 0 rfl ?_
        refine ts_aload_n C dX1_spread_59 rfl 2 rfl ?_
        refine ts_iload C dX1_spread_60 6 rfl ?_
        refine ts_iload_n C dX1_spread_62 rfl 4 rfl ?_
        refine ts_iload C dX1_spread_63 1 rfl ?_
        refine ts_iadd C dX1_spread_65 ?_
        refine ts_iload C dX1_spread_66 0 rfl ?_
        refine ts_callVi C [ts_v y6, ts_v (y2 + x7), ts_v x11] (mX1_moisten hl hb) kX1_moisten q_1378 (ts_lt hb 11 (by decide)) (shX1 hb) rfl rfl rfl (Nat.le_of_ble_eq_true rfl) ⟨Nat.le_of_ble_eq_true rfl, Nat.le_of_ble_eq_true rfl⟩ ⟨Nat.le_of_ble_eq_true rfl, Nat.le_of_ble_eq_true rfl⟩ dX1_spread_68 (fun r13 M12 => ?_)
        refine ts_isub C dX1_spread_71 ?_
        refine ts_istore C dX1_spread_72 (by decide) (lv' := fun x14 => [(4, ts_v x14), (7, ts_v x7), (0, .ref (ts_ad g (b + 11))), (1, ts_v y1), (2, ts_v y2), (5, ts_v y5), (6, ts_v y6)]) (fun _ => rfl) (fun x14 => ?_)
        exact ts_sub [2, 3, 4, 0, 5, 6] rfl (H74 k6 hk6 k16 hk16 _ _ _ _ _ _)
  have H6 : ∀ (n : Nat) (y1 : Int) (y2 : Int) (y4 : Int) (y5 : Int) (M : ts_M), ts_lp4 (wX1_spread_L6 b  Q) n y1 y2 y4 y5 M → ts_V p l e (ts_rm 3 0 0) s m args below meth c g 8 0 0 (MQ below (ts_Q g (ts_Rv Q)) args s 0 0 (ts_A g)) 6 [(0, .ref (ts_ad g (b + 11))), (1, ts_v y1), (2, ts_v y2), (4, ts_v y4), (5, ts_v y5)] [] M := by
    refine ts_lpr4 (V := fun (y1 : Int) (y2 : Int) (y4 : Int) (y5 : Int) (M : ts_M) => ts_V p l e (ts_rm 3 0 0) s m args below meth c g 8 0 0 (MQ below (ts_Q g (ts_Rv Q)) args s 0 0 (ts_A g)) 6 [(0, .ref (ts_ad g (b + 11))), (1, ts_v y1), (2, ts_v y2), (4, ts_v y4), (5, ts_v y5)] [] M) ?_
    intro k6 hk6 y1 y2 y4 y5 M
    unfold wX1_spread_L6
    refine ts_iload C dX1_spread_6 4 rfl ?_
    refine ts_bipush C dX1_spread_8 14 tb_14 ?_
    refine ts_cmp_gt C rfl tw_14 86 dX1_spread_10 rfl ?_ ?_
    · exact ts_vreti C (Nat.zero_le _) (Nat.zero_le _) dX1_spread_86
    · refine ts_iconst C dX1_spread_13 0 rfl ?_
      refine ts_istore C dX1_spread_14 (by decide) (lv' := fun x3 => [(6, ts_v x3), (0, .ref (ts_ad g (b + 11))), (1, ts_v y1), (2, ts_v y2), (4, ts_v y4), (5, ts_v y5)]) (fun _ => rfl) (fun x3 => ?_)
      rintro ⟨n, hn⟩
      exact ts_sub [1, 2, 3, 4, 5, 0] rfl (H16 k6 hk6 n _ _ _ _ _ _) hn
  revert h0
  unfold wX1_spread
  have hl0 : lv_args 0 [.ref (ts_ad g (b + 11)), ts_v p1, ts_v p2, ts_v p3] = [(0, .ref (ts_ad g (b + 11))), (1, ts_v p1), (2, ts_v p2), (3, ts_v p3)] := rfl
  rw [hl0]
  refine ts_iload_n C dX1_spread_0 rfl 3 rfl ?_
  refine ts_istore C dX1_spread_1 (by decide) (lv' := fun x1 => [(4, ts_v x1), (0, .ref (ts_ad g (b + 11))), (1, ts_v p1), (2, ts_v p2), (3, ts_v p3)]) (fun _ => rfl) (fun x1 => ?_)
  refine ts_iconst C dX1_spread_3 0 rfl ?_
  refine ts_istore C dX1_spread_4 (by decide) (lv' := fun x2 => [(5, ts_v x2), (4, ts_v x1), (0, .ref (ts_ad g (b + 11))), (1, ts_v p1), (2, ts_v p2), (3, ts_v p3)]) (fun _ => rfl) (fun x2 => ?_)
  rintro ⟨n, hn⟩
  exact ts_sub [2, 3, 4, 1, 0] rfl (H6 n _ _ _ _ _) hn
def wX1_dry (b : Nat) (p1 : Int64) (Q : Int → ts_M → Prop) (M : ts_M) : Prop :=
  (wX1_walkFrom b p1 (fun r2 M1 => (∀ x3 : Int64, x3 = r2 → (∀ M4, M4 = ts_sl M1 (b + 11) 0 ((M1.2.1 (b + 11) 0) &&& (x3 ^^^ (-1))) → (wJ13_bitCount_95d88 x3 (fun r6 M5 => Q r6 M5) M4)))) M)
set_option maxRecDepth 100000 in
set_option maxHeartbeats 4000000 in
theorem mX1_dry {l : Launch} {g : ts_W} (hl : l.stackTraces = false) {b : Nat} (hb : ts_isS b) {p1 : Int64} {Q : Int → ts_M → Prop} {M : ts_M} : wX1_dry b p1 Q M → ts_Con l g yX1_dry cX1_dry 5 (some .int) 2 0 0 [.ref (ts_ad g (b + 11)), .long p1] M (ts_Ri Q) := by
  intro h0
  refine ts_Con.of hl (by decide) (Nat.le_of_ble_eq_true rfl) ?_
  intro p e s m args below meth c C
  revert h0
  unfold wX1_dry
  have hl0 : lv_args 0 [.ref (ts_ad g (b + 11)), .long p1] = [(0, .ref (ts_ad g (b + 11))), (1, .long p1)] := rfl
  rw [hl0]
  refine ts_aload_n C dX1_dry_0 rfl 0 rfl ?_
  refine ts_lload_n C dX1_dry_1 rfl 1 rfl ?_
  refine ts_callVl C [.long p1] (mX1_walkFrom hl hb) kX1_walkFrom q_548 (ts_lt hb 11 (by decide)) (shX1 hb) rfl rfl rfl (Nat.le_of_ble_eq_true rfl) ⟨Nat.le_of_ble_eq_true rfl, Nat.le_of_ble_eq_true rfl⟩ ⟨Nat.le_of_ble_eq_true rfl, Nat.le_of_ble_eq_true rfl⟩ dX1_dry_2 (fun r2 M1 => ?_)
  refine ts_lstore_n C dX1_dry_5 rfl (by decide) (lv' := fun x3 => [(3, .long x3), (0, .ref (ts_ad g (b + 11))), (1, .long p1)]) (fun _ => rfl) (fun x3 => ?_)
  refine ts_aload_n C dX1_dry_6 rfl 1 rfl ?_
  refine ts_dup C dX1_dry_7 rfl ?_
  refine tgX1_0 hb C q_277 dX1_dry_8 ?_
  refine ts_lload_n C dX1_dry_11 rfl 0 rfl ?_
  refine ts_ldc2 C (-1) dX1_dry_12 q_557 ?_
  refine ts_lxor C dX1_dry_15 ?_
  refine ts_land C dX1_dry_16 ?_
  refine tpX1_0 hb C q_277 dX1_dry_17 (fun M4 => ?_)
  refine ts_lload_n C dX1_dry_20 rfl 0 rfl ?_
  refine ts_callSi C [.long x3] (mJ13_bitCount_95d88 hl) kJ13_bitCount_95d88 q_558 rfl rfl (Nat.le_of_ble_eq_true rfl) ⟨Nat.le_of_ble_eq_true rfl, Nat.le_of_ble_eq_true rfl⟩ ⟨Nat.le_of_ble_eq_true rfl, Nat.le_of_ble_eq_true rfl⟩ dX1_dry_21 (fun r6 M5 => ?_)
  exact ts_ireti C (Nat.zero_le _) (Nat.zero_le _) dX1_dry_24
def wX1_largestSize_B58 (b : Nat)  (Q : Int → ts_M → Prop)  (y1 : Int) (M : ts_M) : Prop :=
  Q y1 M
def wX1_largestSize_L10 (b : Nat)  (Q : Int → ts_M → Prop) (k10 : Int → Int64 → Int → ts_M → Prop) (y1 : Int) (y2 : Int64) (y4 : Int) (M : ts_M) : Prop :=
  ((64 ≤ ts_w y4 → wX1_largestSize_B58 b Q y1 M) ∧ (¬ (64 ≤ ts_w y4) → ((y2 = 0 → wX1_largestSize_B58 b Q y1 M) ∧ (¬ (y2 = 0) → (wX1_firstOf y2 (fun r5 M4 => (wX1_walkFrom b r5 (fun r7 M6 => (∀ x8 : Int64, x8 = r7 → (∀ x9 : Int64, x9 = y2 &&& (x8 ^^^ (-1)) → (wJ13_bitCount_95d88 x8 (fun r11 M10 => (wJ9_max_7cf53 y1 r11 (fun r13 M12 => (∀ x14 : Int, x14 = r13 → (∀ x15 : Int, x15 = y4 + 1 → k10 x14 x9 x15 M12))) M10)) M6)))) M4)) M)))))
def wX1_largestSize (b : Nat) (Q : Int → ts_M → Prop) (M : ts_M) : Prop :=
  (∀ x1 : Int, x1 = 0 → (∀ x2 : Int64, x2 = M.2.1 (b + 11) 0 → (∀ x3 : Int, x3 = 0 → ∃ n, ts_lp3 (wX1_largestSize_L10 b Q) n x1 x2 x3 M)))
set_option maxRecDepth 100000 in
set_option maxHeartbeats 4000000 in
theorem mX1_largestSize {l : Launch} {g : ts_W} (hl : l.stackTraces = false) {b : Nat} (hb : ts_isS b) {Q : Int → ts_M → Prop} {M : ts_M} : wX1_largestSize b Q M → ts_Con l g yX1_largestSize cX1_largestSize 7 (some .int) 2 0 0 [.ref (ts_ad g (b + 11))] M (ts_Ri Q) := by
  intro h0
  refine ts_Con.of hl (by decide) (Nat.le_of_ble_eq_true rfl) ?_
  intro p e s m args below meth c C
  have H58 : ∀ (y1 : Int) (M : ts_M), wX1_largestSize_B58 b  Q y1 M → ts_V p l e (ts_rm 2 0 0) s m args below meth c g 7 0 0 (MQ below (ts_Q g (ts_Ri Q)) args s 0 0 (ts_A g)) 58 [(1, ts_v y1)] [] M := by
    intro  y1 M
    unfold wX1_largestSize_B58
    refine ts_iload_n C dX1_largestSize_58 rfl 0 rfl ?_
    exact ts_ireti C (Nat.zero_le _) (Nat.zero_le _) dX1_largestSize_59
  have H10 : ∀ (n : Nat) (y1 : Int) (y2 : Int64) (y4 : Int) (M : ts_M), ts_lp3 (wX1_largestSize_L10 b  Q) n y1 y2 y4 M → ts_V p l e (ts_rm 2 0 0) s m args below meth c g 7 0 0 (MQ below (ts_Q g (ts_Ri Q)) args s 0 0 (ts_A g)) 10 [(0, .ref (ts_ad g (b + 11))), (1, ts_v y1), (2, .long y2), (4, ts_v y4)] [] M := by
    refine ts_lpr3 (V := fun (y1 : Int) (y2 : Int64) (y4 : Int) (M : ts_M) => ts_V p l e (ts_rm 2 0 0) s m args below meth c g 7 0 0 (MQ below (ts_Q g (ts_Ri Q)) args s 0 0 (ts_A g)) 10 [(0, .ref (ts_ad g (b + 11))), (1, ts_v y1), (2, .long y2), (4, ts_v y4)] [] M) ?_
    intro k10 hk10 y1 y2 y4 M
    unfold wX1_largestSize_L10
    refine ts_iload C dX1_largestSize_10 3 rfl ?_
    refine ts_bipush C dX1_largestSize_12 64 tb_64 ?_
    refine ts_cmp_ge C rfl tw_64 58 dX1_largestSize_14 rfl ?_ ?_
    · exact ts_sub [1] rfl (H58 _ _)
    · refine ts_lload_n C dX1_largestSize_17 rfl 2 rfl ?_
      refine ts_lconst C dX1_largestSize_18 0 rfl ?_
      refine ts_lcmp C dX1_largestSize_19 ?_
      refine ts_lif_eq C 58 dX1_largestSize_20 rfl ?_ ?_
      · exact ts_sub [1] rfl (H58 _ _)
      · refine ts_aload_n C dX1_largestSize_23 rfl 0 rfl ?_
        refine ts_lload_n C dX1_largestSize_24 rfl 2 rfl ?_
        refine ts_callSl C [.long y2] (mX1_firstOf hl) kX1_firstOf q_545 rfl rfl (Nat.le_of_ble_eq_true rfl) ⟨Nat.le_of_ble_eq_true rfl, Nat.le_of_ble_eq_true rfl⟩ ⟨Nat.le_of_ble_eq_true rfl, Nat.le_of_ble_eq_true rfl⟩ dX1_largestSize_25 (fun r5 M4 => ?_)
        refine ts_callVl C [.long r5] (mX1_walkFrom hl hb) kX1_walkFrom q_548 (ts_lt hb 11 (by decide)) (shX1 hb) rfl rfl rfl (Nat.le_of_ble_eq_true rfl) ⟨Nat.le_of_ble_eq_true rfl, Nat.le_of_ble_eq_true rfl⟩ ⟨Nat.le_of_ble_eq_true rfl, Nat.le_of_ble_eq_true rfl⟩ dX1_largestSize_28 (fun r7 M6 => ?_)
        refine ts_lstore C dX1_largestSize_31 (by decide) (lv' := fun x8 => [(5, .long x8), (0, .ref (ts_ad g (b + 11))), (1, ts_v y1), (2, .long y2), (4, ts_v y4)]) (fun _ => rfl) (fun x8 => ?_)
        refine ts_lload_n C dX1_largestSize_33 rfl 3 rfl ?_
        refine ts_lload C dX1_largestSize_34 0 rfl ?_
        refine ts_ldc2 C (-1) dX1_largestSize_36 q_557 ?_
        refine ts_lxor C dX1_largestSize_39 ?_
        refine ts_land C dX1_largestSize_40 ?_
        refine ts_lstore_n C dX1_largestSize_41 rfl (by decide) (lv' := fun x9 => [(2, .long x9), (5, .long x8), (0, .ref (ts_ad g (b + 11))), (1, ts_v y1), (4, ts_v y4)]) (fun _ => rfl) (fun x9 => ?_)
        refine ts_iload_n C dX1_largestSize_42 rfl 3 rfl ?_
        refine ts_lload C dX1_largestSize_43 1 rfl ?_
        refine ts_callSi C [.long x8] (mJ13_bitCount_95d88 hl) kJ13_bitCount_95d88 q_558 rfl rfl (Nat.le_of_ble_eq_true rfl) ⟨Nat.le_of_ble_eq_true rfl, Nat.le_of_ble_eq_true rfl⟩ ⟨Nat.le_of_ble_eq_true rfl, Nat.le_of_ble_eq_true rfl⟩ dX1_largestSize_45 (fun r11 M10 => ?_)
        refine ts_callSi C [ts_v y1, ts_v r11] (mJ9_max_7cf53 hl) kJ9_max_7cf53 q_559 rfl rfl (Nat.le_of_ble_eq_true rfl) ⟨Nat.le_of_ble_eq_true rfl, Nat.le_of_ble_eq_true rfl⟩ ⟨Nat.le_of_ble_eq_true rfl, Nat.le_of_ble_eq_true rfl⟩ dX1_largestSize_48 (fun r13 M12 => ?_)
        refine ts_istore_n C dX1_largestSize_51 rfl (by decide) (lv' := fun x14 => [(1, ts_v x14), (2, .long x9), (5, .long x8), (0, .ref (ts_ad g (b + 11))), (4, ts_v y4)]) (fun _ => rfl) (fun x14 => ?_)
        refine ts_iinc C dX1_largestSize_52 4 rfl (by decide) (lv' := fun x15 => [(4, ts_v x15), (1, ts_v x14), (2, .long x9), (5, .long x8), (0, .ref (ts_ad g (b + 11)))]) (fun _ => rfl) (fun x15 => ?_)
        refine ts_goto C 10 dX1_largestSize_55 rfl ?_
        exact ts_sub [4, 1, 2, 0] rfl (hk10 _ _ _ _)
  revert h0
  unfold wX1_largestSize
  have hl0 : lv_args 0 [.ref (ts_ad g (b + 11))] = [(0, .ref (ts_ad g (b + 11)))] := rfl
  rw [hl0]
  refine ts_iconst C dX1_largestSize_0 0 rfl ?_
  refine ts_istore_n C dX1_largestSize_1 rfl (by decide) (lv' := fun x1 => [(1, ts_v x1), (0, .ref (ts_ad g (b + 11)))]) (fun _ => rfl) (fun x1 => ?_)
  refine ts_aload_n C dX1_largestSize_2 rfl 1 rfl ?_
  refine tgX1_0 hb C q_277 dX1_largestSize_3 ?_
  refine ts_lstore_n C dX1_largestSize_6 rfl (by decide) (lv' := fun x2 => [(2, .long x2), (1, ts_v x1), (0, .ref (ts_ad g (b + 11)))]) (fun _ => rfl) (fun x2 => ?_)
  refine ts_iconst C dX1_largestSize_7 0 rfl ?_
  refine ts_istore C dX1_largestSize_8 (by decide) (lv' := fun x3 => [(4, ts_v x3), (2, .long x2), (1, ts_v x1), (0, .ref (ts_ad g (b + 11)))]) (fun _ => rfl) (fun x3 => ?_)
  rintro ⟨n, hn⟩
  exact ts_sub [3, 2, 1, 0] rfl (H10 n _ _ _ _) hn
def wX1_joinGroups_B41 (b : Nat) (k7 : Int → ts_M → Prop) (k15 : Int → Int → ts_M → Prop) (Q : ts_M → Prop)  (y1 : Int) (y2 : Int) (M : ts_M) : Prop :=
  (∀ x7 : Int, x7 = y2 + 1 → k15 y1 x7 M)
def wX1_joinGroups_L15 (b : Nat) (k7 : Int → ts_M → Prop) (Q : ts_M → Prop) (k15 : Int → Int → ts_M → Prop) (y1 : Int) (y2 : Int) (M : ts_M) : Prop :=
  ((8 ≤ ts_w y2 → (∀ x4 : Int, x4 = y1 + 1 → k7 x4 M)) ∧ (¬ (8 ≤ ts_w y2) → (wX1_wetAt b y1 y2 (fun r6 M5 => ((r6 = 0 → wX1_joinGroups_B41 b k7 k15 Q y1 y2 M5) ∧ (¬ (r6 = 0) → (wX1_cell y1 y2 (fun r9 M8 => (wX1_joinCell b r9 (fun M10 => wX1_joinGroups_B41 b k7 k15 Q y1 y2 M10) M8)) M5)))) M)))
def wX1_joinGroups_L7 (b : Nat)  (Q : ts_M → Prop) (k7 : Int → ts_M → Prop) (y1 : Int) (M : ts_M) : Prop :=
  ((8 ≤ ts_w y1 → Q M) ∧ (¬ (8 ≤ ts_w y1) → (∀ x3 : Int, x3 = 0 → ∃ n, ts_lp2 (wX1_joinGroups_L15 b k7 Q) n y1 x3 M)))
def wX1_joinGroups (b : Nat) (Q : ts_M → Prop) (M : ts_M) : Prop :=
  (∀ M1, M1 = ts_si M (b + 11) 2 0 → (∀ x2 : Int, x2 = 0 → ∃ n, ts_lp1 (wX1_joinGroups_L7 b Q) n x2 M1))
set_option maxRecDepth 100000 in
set_option maxHeartbeats 4000000 in
theorem mX1_joinGroups {l : Launch} {g : ts_W} (hl : l.stackTraces = false) {b : Nat} (hb : ts_isS b) {Q : ts_M → Prop} {M : ts_M} : wX1_joinGroups b Q M → ts_Con l g yX1_joinGroups cX1_joinGroups 3 none 2 0 0 [.ref (ts_ad g (b + 11))] M (ts_Rv Q) := by
  intro h0
  refine ts_Con.of hl (by decide) (Nat.le_of_ble_eq_true rfl) ?_
  intro p e s m args below meth c C
  have H41 : ∀ (k7 : Int → ts_M → Prop) (hk7 : ∀ (y1 : Int) (M : ts_M), k7 y1 M → ts_V p l e (ts_rm 2 0 0) s m args below meth c g 3 0 0 (MQ below (ts_Q g (ts_Rv Q)) args s 0 0 (ts_A g)) 7 [(0, .ref (ts_ad g (b + 11))), (1, ts_v y1)] [] M) (k15 : Int → Int → ts_M → Prop) (hk15 : ∀ (y1 : Int) (y2 : Int) (M : ts_M), k15 y1 y2 M → ts_V p l e (ts_rm 2 0 0) s m args below meth c g 3 0 0 (MQ below (ts_Q g (ts_Rv Q)) args s 0 0 (ts_A g)) 15 [(0, .ref (ts_ad g (b + 11))), (1, ts_v y1), (2, ts_v y2)] [] M) (y1 : Int) (y2 : Int) (M : ts_M), wX1_joinGroups_B41 b k7 k15 Q y1 y2 M → ts_V p l e (ts_rm 2 0 0) s m args below meth c g 3 0 0 (MQ below (ts_Q g (ts_Rv Q)) args s 0 0 (ts_A g)) 41 [(0, .ref (ts_ad g (b + 11))), (1, ts_v y1), (2, ts_v y2)] [] M := by
    intro k7 hk7 k15 hk15 y1 y2 M
    unfold wX1_joinGroups_B41
    refine ts_iinc C dX1_joinGroups_41 2 rfl (by decide) (lv' := fun x7 => [(2, ts_v x7), (0, .ref (ts_ad g (b + 11))), (1, ts_v y1)]) (fun _ => rfl) (fun x7 => ?_)
    refine ts_goto C 15 dX1_joinGroups_44 rfl ?_
    exact ts_sub [1, 2, 0] rfl (hk15 _ _ _)
  have H15 : ∀ (k7 : Int → ts_M → Prop) (hk7 : ∀ (y1 : Int) (M : ts_M), k7 y1 M → ts_V p l e (ts_rm 2 0 0) s m args below meth c g 3 0 0 (MQ below (ts_Q g (ts_Rv Q)) args s 0 0 (ts_A g)) 7 [(0, .ref (ts_ad g (b + 11))), (1, ts_v y1)] [] M) (n : Nat) (y1 : Int) (y2 : Int) (M : ts_M), ts_lp2 (wX1_joinGroups_L15 b k7 Q) n y1 y2 M → ts_V p l e (ts_rm 2 0 0) s m args below meth c g 3 0 0 (MQ below (ts_Q g (ts_Rv Q)) args s 0 0 (ts_A g)) 15 [(0, .ref (ts_ad g (b + 11))), (1, ts_v y1), (2, ts_v y2)] [] M := by
    intro k7 hk7
    refine ts_lpr2 (V := fun (y1 : Int) (y2 : Int) (M : ts_M) => ts_V p l e (ts_rm 2 0 0) s m args below meth c g 3 0 0 (MQ below (ts_Q g (ts_Rv Q)) args s 0 0 (ts_A g)) 15 [(0, .ref (ts_ad g (b + 11))), (1, ts_v y1), (2, ts_v y2)] [] M) ?_
    intro k15 hk15 y1 y2 M
    unfold wX1_joinGroups_L15
    refine ts_iload_n C dX1_joinGroups_15 rfl 2 rfl ?_
    refine ts_bipush C dX1_joinGroups_16 8 tb_8 ?_
    refine ts_cmp_ge C rfl tw_8 47 dX1_joinGroups_18 rfl ?_ ?_
    · refine ts_iinc C dX1_joinGroups_47 1 rfl (by decide) (lv' := fun x4 => [(1, ts_v x4), (0, .ref (ts_ad g (b + 11))), (2, ts_v y2)]) (fun _ => rfl) (fun x4 => ?_)
      refine ts_goto C 7 dX1_joinGroups_50 rfl ?_
      exact ts_sub [1, 0] rfl (hk7 _ _)
    · refine ts_aload_n C dX1_joinGroups_21 rfl 0 rfl ?_
      refine ts_iload_n C dX1_joinGroups_22 rfl 1 rfl ?_
      refine ts_iload_n C dX1_joinGroups_23 rfl 2 rfl ?_
      refine ts_callVl C [ts_v y1, ts_v y2] (mX1_wetAt hl hb) kX1_wetAt q_640 (ts_lt hb 11 (by decide)) (shX1 hb) rfl rfl rfl (Nat.le_of_ble_eq_true rfl) ⟨Nat.le_of_ble_eq_true rfl, Nat.le_of_ble_eq_true rfl⟩ ⟨Nat.le_of_ble_eq_true rfl, Nat.le_of_ble_eq_true rfl⟩ dX1_joinGroups_24 (fun r6 M5 => ?_)
      refine ts_lconst C dX1_joinGroups_27 0 rfl ?_
      refine ts_lcmp C dX1_joinGroups_28 ?_
      refine ts_lif_eq C 41 dX1_joinGroups_29 rfl ?_ ?_
      · exact ts_sub [0, 1, 2] rfl (H41 k7 hk7 k15 hk15 _ _ _)
      · refine ts_aload_n C dX1_joinGroups_32 rfl 0 rfl ?_
        refine ts_iload_n C dX1_joinGroups_33 rfl 1 rfl ?_
        refine ts_iload_n C dX1_joinGroups_34 rfl 2 rfl ?_
        refine ts_callSl C [ts_v y1, ts_v y2] (mX1_cell hl) kX1_cell q_644 rfl rfl (Nat.le_of_ble_eq_true rfl) ⟨Nat.le_of_ble_eq_true rfl, Nat.le_of_ble_eq_true rfl⟩ ⟨Nat.le_of_ble_eq_true rfl, Nat.le_of_ble_eq_true rfl⟩ dX1_joinGroups_35 (fun r9 M8 => ?_)
        refine ts_callVv C [.long r9] (mX1_joinCell hl hb) kX1_joinCell q_647 (ts_lt hb 11 (by decide)) (shX1 hb) rfl rfl rfl (Nat.le_of_ble_eq_true rfl) ⟨Nat.le_of_ble_eq_true rfl, Nat.le_of_ble_eq_true rfl⟩ ⟨Nat.le_of_ble_eq_true rfl, Nat.le_of_ble_eq_true rfl⟩ dX1_joinGroups_38 (fun M10 => ?_)
        exact ts_sub [0, 1, 2] rfl (H41 k7 hk7 k15 hk15 _ _ _)
  have H7 : ∀ (n : Nat) (y1 : Int) (M : ts_M), ts_lp1 (wX1_joinGroups_L7 b  Q) n y1 M → ts_V p l e (ts_rm 2 0 0) s m args below meth c g 3 0 0 (MQ below (ts_Q g (ts_Rv Q)) args s 0 0 (ts_A g)) 7 [(0, .ref (ts_ad g (b + 11))), (1, ts_v y1)] [] M := by
    refine ts_lpr1 (V := fun (y1 : Int) (M : ts_M) => ts_V p l e (ts_rm 2 0 0) s m args below meth c g 3 0 0 (MQ below (ts_Q g (ts_Rv Q)) args s 0 0 (ts_A g)) 7 [(0, .ref (ts_ad g (b + 11))), (1, ts_v y1)] [] M) ?_
    intro k7 hk7 y1 M
    unfold wX1_joinGroups_L7
    refine ts_iload_n C dX1_joinGroups_7 rfl 1 rfl ?_
    refine ts_bipush C dX1_joinGroups_8 8 tb_8 ?_
    refine ts_cmp_ge C rfl tw_8 53 dX1_joinGroups_10 rfl ?_ ?_
    · exact ts_vreti C (Nat.zero_le _) (Nat.zero_le _) dX1_joinGroups_53
    · refine ts_iconst C dX1_joinGroups_13 0 rfl ?_
      refine ts_istore_n C dX1_joinGroups_14 rfl (by decide) (lv' := fun x3 => [(2, ts_v x3), (0, .ref (ts_ad g (b + 11))), (1, ts_v y1)]) (fun _ => rfl) (fun x3 => ?_)
      rintro ⟨n, hn⟩
      exact ts_sub [1, 2, 0] rfl (H15 k7 hk7 n _ _ _) hn
  revert h0
  unfold wX1_joinGroups
  have hl0 : lv_args 0 [.ref (ts_ad g (b + 11))] = [(0, .ref (ts_ad g (b + 11)))] := rfl
  rw [hl0]
  refine ts_aload_n C dX1_joinGroups_0 rfl 0 rfl ?_
  refine ts_iconst C dX1_joinGroups_1 0 rfl ?_
  refine tpX1_2 hb C q_280 dX1_joinGroups_2 (fun M1 => ?_)
  refine ts_iconst C dX1_joinGroups_5 0 rfl ?_
  refine ts_istore_n C dX1_joinGroups_6 rfl (by decide) (lv' := fun x2 => [(1, ts_v x2), (0, .ref (ts_ad g (b + 11)))]) (fun _ => rfl) (fun x2 => ?_)
  rintro ⟨n, hn⟩
  exact ts_sub [1, 0] rfl (H7 n _ _) hn
def wX1_puddleWaysAgree_B66 (b : Nat)  (Q : Int → ts_M → Prop)   (M : ts_M) : Prop :=
  Q 1 M
def wX1_puddleWaysAgree_L11 (b : Nat)  (Q : Int → ts_M → Prop) (k11 : Int64 → Int → ts_M → Prop) (y1 : Int64) (y3 : Int) (M : ts_M) : Prop :=
  ((64 ≤ ts_w y3 → wX1_puddleWaysAgree_B66 b Q M) ∧ (¬ (64 ≤ ts_w y3) → ((y1 = 0 → wX1_puddleWaysAgree_B66 b Q M) ∧ (¬ (y1 = 0) → (wX1_firstOf y1 (fun r5 M4 => (∀ x6 : Int64, x6 = r5 → (wX1_walkFrom b x6 (fun r8 M7 => (∀ x9 : Int64, x9 = r8 → (wX1_groupOf b x6 (fun r11 M10 => ((x9 = r11 → (∀ x12 : Int64, x12 = y1 &&& (x9 ^^^ (-1)) → (∀ x13 : Int, x13 = y3 + 1 → k11 x12 x13 M10))) ∧ (¬ (x9 = r11) → Q 0 M10))) M7))) M4))) M)))))
def wX1_puddleWaysAgree (b : Nat) (Q : Int → ts_M → Prop) (M : ts_M) : Prop :=
  (wX1_joinGroups b (fun M1 => (∀ x2 : Int64, x2 = M1.2.1 (b + 11) 0 → (∀ x3 : Int, x3 = 0 → ∃ n, ts_lp2 (wX1_puddleWaysAgree_L11 b Q) n x2 x3 M1))) M)
set_option maxRecDepth 100000 in
set_option maxHeartbeats 4000000 in
theorem mX1_puddleWaysAgree {l : Launch} {g : ts_W} (hl : l.stackTraces = false) {b : Nat} (hb : ts_isS b) {Q : Int → ts_M → Prop} {M : ts_M} : wX1_puddleWaysAgree b Q M → ts_Con l g yX1_puddleWaysAgree cX1_puddleWaysAgree 8 (some .boolean) 3 0 0 [.ref (ts_ad g (b + 11))] M (ts_Ri Q) := by
  intro h0
  refine ts_Con.of hl (by decide) (Nat.le_of_ble_eq_true rfl) ?_
  intro p e s m args below meth c C
  have H66 : ∀  (M : ts_M), wX1_puddleWaysAgree_B66 b  Q  M → ts_V p l e (ts_rm 3 0 0) s m args below meth c g 8 0 0 (MQ below (ts_Q g (ts_Ri Q)) args s 0 0 (ts_A g)) 66 [] [] M := by
    intro   M
    unfold wX1_puddleWaysAgree_B66
    refine ts_iconst C dX1_puddleWaysAgree_66 1 rfl ?_
    exact ts_zretci C (by decide) (Nat.zero_le _) (Nat.zero_le _) dX1_puddleWaysAgree_67
  have H11 : ∀ (n : Nat) (y1 : Int64) (y3 : Int) (M : ts_M), ts_lp2 (wX1_puddleWaysAgree_L11 b  Q) n y1 y3 M → ts_V p l e (ts_rm 3 0 0) s m args below meth c g 8 0 0 (MQ below (ts_Q g (ts_Ri Q)) args s 0 0 (ts_A g)) 11 [(0, .ref (ts_ad g (b + 11))), (1, .long y1), (3, ts_v y3)] [] M := by
    refine ts_lpr2 (V := fun (y1 : Int64) (y3 : Int) (M : ts_M) => ts_V p l e (ts_rm 3 0 0) s m args below meth c g 8 0 0 (MQ below (ts_Q g (ts_Ri Q)) args s 0 0 (ts_A g)) 11 [(0, .ref (ts_ad g (b + 11))), (1, .long y1), (3, ts_v y3)] [] M) ?_
    intro k11 hk11 y1 y3 M
    unfold wX1_puddleWaysAgree_L11
    refine ts_iload_n C dX1_puddleWaysAgree_11 rfl 2 rfl ?_
    refine ts_bipush C dX1_puddleWaysAgree_12 64 tb_64 ?_
    refine ts_cmp_ge C rfl tw_64 66 dX1_puddleWaysAgree_14 rfl ?_ ?_
    · exact ts_sub [] rfl (H66 _)
    · refine ts_lload_n C dX1_puddleWaysAgree_17 rfl 1 rfl ?_
      refine ts_lconst C dX1_puddleWaysAgree_18 0 rfl ?_
      refine ts_lcmp C dX1_puddleWaysAgree_19 ?_
      refine ts_lif_eq C 66 dX1_puddleWaysAgree_20 rfl ?_ ?_
      · exact ts_sub [] rfl (H66 _)
      · refine ts_lload_n C dX1_puddleWaysAgree_23 rfl 1 rfl ?_
        refine ts_callSl C [.long y1] (mX1_firstOf hl) kX1_firstOf q_545 rfl rfl (Nat.le_of_ble_eq_true rfl) ⟨Nat.le_of_ble_eq_true rfl, Nat.le_of_ble_eq_true rfl⟩ ⟨Nat.le_of_ble_eq_true rfl, Nat.le_of_ble_eq_true rfl⟩ dX1_puddleWaysAgree_24 (fun r5 M4 => ?_)
        refine ts_lstore C dX1_puddleWaysAgree_27 (by decide) (lv' := fun x6 => [(4, .long x6), (0, .ref (ts_ad g (b + 11))), (1, .long y1), (3, ts_v y3)]) (fun _ => rfl) (fun x6 => ?_)
        refine ts_aload_n C dX1_puddleWaysAgree_29 rfl 1 rfl ?_
        refine ts_lload C dX1_puddleWaysAgree_30 0 rfl ?_
        refine ts_callVl C [.long x6] (mX1_walkFrom hl hb) kX1_walkFrom q_548 (ts_lt hb 11 (by decide)) (shX1 hb) rfl rfl rfl (Nat.le_of_ble_eq_true rfl) ⟨Nat.le_of_ble_eq_true rfl, Nat.le_of_ble_eq_true rfl⟩ ⟨Nat.le_of_ble_eq_true rfl, Nat.le_of_ble_eq_true rfl⟩ dX1_puddleWaysAgree_32 (fun r8 M7 => ?_)
        refine ts_lstore C dX1_puddleWaysAgree_35 (by decide) (lv' := fun x9 => [(6, .long x9), (4, .long x6), (0, .ref (ts_ad g (b + 11))), (1, .long y1), (3, ts_v y3)]) (fun _ => rfl) (fun x9 => ?_)
        refine ts_lload C dX1_puddleWaysAgree_37 0 rfl ?_
        refine ts_aload_n C dX1_puddleWaysAgree_39 rfl 2 rfl ?_
        refine ts_lload C dX1_puddleWaysAgree_40 1 rfl ?_
        refine ts_callVl C [.long x6] (mX1_groupOf hl hb) kX1_groupOf q_651 (ts_lt hb 11 (by decide)) (shX1 hb) rfl rfl rfl (Nat.le_of_ble_eq_true rfl) ⟨Nat.le_of_ble_eq_true rfl, Nat.le_of_ble_eq_true rfl⟩ ⟨Nat.le_of_ble_eq_true rfl, Nat.le_of_ble_eq_true rfl⟩ dX1_puddleWaysAgree_42 (fun r11 M10 => ?_)
        refine ts_lcmp C dX1_puddleWaysAgree_45 ?_
        refine ts_lif_eq C 51 dX1_puddleWaysAgree_46 rfl ?_ ?_
        · refine ts_lload_n C dX1_puddleWaysAgree_51 rfl 3 rfl ?_
          refine ts_lload C dX1_puddleWaysAgree_52 0 rfl ?_
          refine ts_ldc2 C (-1) dX1_puddleWaysAgree_54 q_557 ?_
          refine ts_lxor C dX1_puddleWaysAgree_57 ?_
          refine ts_land C dX1_puddleWaysAgree_58 ?_
          refine ts_lstore_n C dX1_puddleWaysAgree_59 rfl (by decide) (lv' := fun x12 => [(1, .long x12), (6, .long x9), (4, .long x6), (0, .ref (ts_ad g (b + 11))), (3, ts_v y3)]) (fun _ => rfl) (fun x12 => ?_)
          refine ts_iinc C dX1_puddleWaysAgree_60 4 rfl (by decide) (lv' := fun x13 => [(3, ts_v x13), (1, .long x12), (6, .long x9), (4, .long x6), (0, .ref (ts_ad g (b + 11)))]) (fun _ => rfl) (fun x13 => ?_)
          refine ts_goto C 11 dX1_puddleWaysAgree_63 rfl ?_
          exact ts_sub [4, 1, 0] rfl (hk11 _ _ _)
        · refine ts_iconst C dX1_puddleWaysAgree_49 0 rfl ?_
          exact ts_zretci C (by decide) (Nat.zero_le _) (Nat.zero_le _) dX1_puddleWaysAgree_50
  revert h0
  unfold wX1_puddleWaysAgree
  have hl0 : lv_args 0 [.ref (ts_ad g (b + 11))] = [(0, .ref (ts_ad g (b + 11)))] := rfl
  rw [hl0]
  refine ts_aload_n C dX1_puddleWaysAgree_0 rfl 0 rfl ?_
  refine ts_callVv C [] (mX1_joinGroups hl hb) kX1_joinGroups q_636 (ts_lt hb 11 (by decide)) (shX1 hb) rfl rfl rfl (Nat.le_of_ble_eq_true rfl) ⟨Nat.le_of_ble_eq_true rfl, Nat.le_of_ble_eq_true rfl⟩ ⟨Nat.le_of_ble_eq_true rfl, Nat.le_of_ble_eq_true rfl⟩ dX1_puddleWaysAgree_1 (fun M1 => ?_)
  refine ts_aload_n C dX1_puddleWaysAgree_4 rfl 0 rfl ?_
  refine tgX1_0 hb C q_277 dX1_puddleWaysAgree_5 ?_
  refine ts_lstore_n C dX1_puddleWaysAgree_8 rfl (by decide) (lv' := fun x2 => [(1, .long x2), (0, .ref (ts_ad g (b + 11)))]) (fun _ => rfl) (fun x2 => ?_)
  refine ts_iconst C dX1_puddleWaysAgree_9 0 rfl ?_
  refine ts_istore_n C dX1_puddleWaysAgree_10 rfl (by decide) (lv' := fun x3 => [(3, ts_v x3), (1, .long x2), (0, .ref (ts_ad g (b + 11)))]) (fun _ => rfl) (fun x3 => ?_)
  rintro ⟨n, hn⟩
  exact ts_sub [2, 1, 0] rfl (H11 n _ _ _) hn
def wX4_add (b : Nat) (p1 : Int) (Q : Int → ts_M → Prop) (M : ts_M) : Prop :=
  (∀ x1 : Int, x1 = M.1 (b + 6) 3 → (∀ M2, M2 = ts_si M (b + 6) 3 ((M.1 (b + 6) 3) + 1) → (wX4_append b x1 p1 (fun M3 => Q x1 M3) M2)))
set_option maxRecDepth 100000 in
set_option maxHeartbeats 4000000 in
theorem mX4_add {l : Launch} {g : ts_W} (hl : l.stackTraces = false) {b : Nat} (hb : ts_isS b) {p1 : Int} {Q : Int → ts_M → Prop} {M : ts_M} : wX4_add b p1 Q M → ts_Con l g yX4_add cX4_add 3 (some .int) 1 0 0 [.ref (ts_ad g (b + 6)), ts_v p1] M (ts_Ri Q) := by
  intro h0
  refine ts_Con.of hl (by decide) (Nat.le_of_ble_eq_true rfl) ?_
  intro p e s m args below meth c C
  revert h0
  unfold wX4_add
  have hl0 : lv_args 0 [.ref (ts_ad g (b + 6)), ts_v p1] = [(0, .ref (ts_ad g (b + 6))), (1, ts_v p1)] := rfl
  rw [hl0]
  refine ts_aload_n C dX4_add_0 rfl 0 rfl ?_
  refine tgX4_3 hb C q_230 dX4_add_1 ?_
  refine ts_istore_n C dX4_add_4 rfl (by decide) (lv' := fun x1 => [(2, ts_v x1), (0, .ref (ts_ad g (b + 6))), (1, ts_v p1)]) (fun _ => rfl) (fun x1 => ?_)
  refine ts_aload_n C dX4_add_5 rfl 1 rfl ?_
  refine ts_dup C dX4_add_6 rfl ?_
  refine tgX4_3 hb C q_230 dX4_add_7 ?_
  refine ts_iconst C dX4_add_10 1 rfl ?_
  refine ts_iadd C dX4_add_11 ?_
  refine tpX4_3 hb C q_230 dX4_add_12 (fun M2 => ?_)
  refine ts_aload_n C dX4_add_15 rfl 1 rfl ?_
  refine ts_iload_n C dX4_add_16 rfl 0 rfl ?_
  refine ts_iload_n C dX4_add_17 rfl 2 rfl ?_
  refine ts_callVv C [ts_v x1, ts_v p1] (mX4_append hl hb) kX4_append q_1268 (ts_lt hb 6 (by decide)) (shX4 hb) rfl rfl rfl (Nat.le_of_ble_eq_true rfl) ⟨Nat.le_of_ble_eq_true rfl, Nat.le_of_ble_eq_true rfl⟩ ⟨Nat.le_of_ble_eq_true rfl, Nat.le_of_ble_eq_true rfl⟩ dX4_add_18 (fun M3 => ?_)
  refine ts_iload_n C dX4_add_21 rfl 0 rfl ?_
  exact ts_ireti C (Nat.zero_le _) (Nat.zero_le _) dX4_add_22
def wX5_fewestOf_B32  (k5 : Int → Int → Int → ts_M → Prop) (Q : Int → ts_M → Prop)  (y1 : Int) (y2 : Int) (y3 : Int) (M : ts_M) : Prop :=
  (∀ x5 : Int, x5 = y3 + 1 → k5 y1 y2 x5 M)
def wX5_fewestOf_L5   (Q : Int → ts_M → Prop) (k5 : Int → Int → Int → ts_M → Prop) (y1 : Int) (y2 : Int) (y3 : Int) (M : ts_M) : Prop :=
  ((ts_w (M.1 155 2) ≤ ts_w y3 → Q y2 M) ∧ (¬ (ts_w (M.1 155 2) ≤ ts_w y3) → (wX5_isIn y3 y1 (fun r4 M3 => ((ts_w r4 = 0 → wX5_fewestOf_B32 k5 Q y1 y2 y3 M3) ∧ (¬ (ts_w r4 = 0) → (wX5_fewestWithFirst y3 y1 (fun r7 M6 => (wJ9_min_7cf53 y2 r7 (fun r9 M8 => (∀ x10 : Int, x10 = r9 → wX5_fewestOf_B32 k5 Q y1 x10 y3 M8)) M6)) M3)))) M)))
def wX5_fewestOf (p1 : Int) (Q : Int → ts_M → Prop) (M : ts_M) : Prop :=
  (∀ x1 : Int, x1 = 1000000 → (∀ x2 : Int, x2 = 0 → ∃ n, ts_lp3 (wX5_fewestOf_L5 Q) n p1 x1 x2 M))
set_option maxRecDepth 100000 in
set_option maxHeartbeats 4000000 in
theorem mX5_fewestOf {l : Launch} {g : ts_W} (hl : l.stackTraces = false) {p1 : Int} {Q : Int → ts_M → Prop} {M : ts_M} : wX5_fewestOf p1 Q M → ts_Con l g yX5_fewestOf cX5_fewestOf 4 (some .int) 3 0 0 [.ref (ts_ad g 155), ts_v p1] M (ts_Ri Q) := by
  intro h0
  refine ts_Con.of hl (by decide) (Nat.le_of_ble_eq_true rfl) ?_
  intro p e s m args below meth c C
  have H32 : ∀ (k5 : Int → Int → Int → ts_M → Prop) (hk5 : ∀ (y1 : Int) (y2 : Int) (y3 : Int) (M : ts_M), k5 y1 y2 y3 M → ts_V p l e (ts_rm 3 0 0) s m args below meth c g 4 0 0 (MQ below (ts_Q g (ts_Ri Q)) args s 0 0 (ts_A g)) 5 [(0, .ref (ts_ad g 155)), (1, ts_v y1), (2, ts_v y2), (3, ts_v y3)] [] M) (y1 : Int) (y2 : Int) (y3 : Int) (M : ts_M), wX5_fewestOf_B32  k5 Q y1 y2 y3 M → ts_V p l e (ts_rm 3 0 0) s m args below meth c g 4 0 0 (MQ below (ts_Q g (ts_Ri Q)) args s 0 0 (ts_A g)) 32 [(0, .ref (ts_ad g 155)), (1, ts_v y1), (2, ts_v y2), (3, ts_v y3)] [] M := by
    intro k5 hk5 y1 y2 y3 M
    unfold wX5_fewestOf_B32
    refine ts_iinc C dX5_fewestOf_32 3 rfl (by decide) (lv' := fun x5 => [(3, ts_v x5), (0, .ref (ts_ad g 155)), (1, ts_v y1), (2, ts_v y2)]) (fun _ => rfl) (fun x5 => ?_)
    refine ts_goto C 5 dX5_fewestOf_35 rfl ?_
    exact ts_sub [1, 2, 3, 0] rfl (hk5 _ _ _ _)
  have H5 : ∀ (n : Nat) (y1 : Int) (y2 : Int) (y3 : Int) (M : ts_M), ts_lp3 (wX5_fewestOf_L5   Q) n y1 y2 y3 M → ts_V p l e (ts_rm 3 0 0) s m args below meth c g 4 0 0 (MQ below (ts_Q g (ts_Ri Q)) args s 0 0 (ts_A g)) 5 [(0, .ref (ts_ad g 155)), (1, ts_v y1), (2, ts_v y2), (3, ts_v y3)] [] M := by
    refine ts_lpr3 (V := fun (y1 : Int) (y2 : Int) (y3 : Int) (M : ts_M) => ts_V p l e (ts_rm 3 0 0) s m args below meth c g 4 0 0 (MQ below (ts_Q g (ts_Ri Q)) args s 0 0 (ts_A g)) 5 [(0, .ref (ts_ad g 155)), (1, ts_v y1), (2, ts_v y2), (3, ts_v y3)] [] M) ?_
    intro k5 hk5 y1 y2 y3 M
    unfold wX5_fewestOf_L5
    refine ts_iload_n C dX5_fewestOf_5 rfl 3 rfl ?_
    refine ts_aload_n C dX5_fewestOf_6 rfl 0 rfl ?_
    refine tgX5_2 C q_355 dX5_fewestOf_7 ?_
    refine ts_cmp_ge C rfl rfl 38 dX5_fewestOf_10 rfl ?_ ?_
    · refine ts_iload_n C dX5_fewestOf_38 rfl 2 rfl ?_
      exact ts_ireti C (Nat.zero_le _) (Nat.zero_le _) dX5_fewestOf_39
    · refine ts_iload_n C dX5_fewestOf_13 rfl 3 rfl ?_
      refine ts_iload_n C dX5_fewestOf_14 rfl 1 rfl ?_
      refine ts_callSi C [ts_v y3, ts_v y1] (mX5_isIn hl) kX5_isIn q_506 rfl rfl (Nat.le_of_ble_eq_true rfl) ⟨Nat.le_of_ble_eq_true rfl, Nat.le_of_ble_eq_true rfl⟩ ⟨Nat.le_of_ble_eq_true rfl, Nat.le_of_ble_eq_true rfl⟩ dX5_fewestOf_15 (fun r4 M3 => ?_)
      refine ts_cm0_eq C rfl 32 dX5_fewestOf_18 rfl ?_ ?_
      · exact ts_sub [0, 1, 2, 3] rfl (H32 k5 hk5 _ _ _ _)
      · refine ts_iload_n C dX5_fewestOf_21 rfl 2 rfl ?_
        refine ts_aload_n C dX5_fewestOf_22 rfl 0 rfl ?_
        refine ts_iload_n C dX5_fewestOf_23 rfl 3 rfl ?_
        refine ts_iload_n C dX5_fewestOf_24 rfl 1 rfl ?_
        refine ts_callVi C [ts_v y3, ts_v y1] (mX5_fewestWithFirst hl) kX5_fewestWithFirst q_509 (by decide) shX5 rfl rfl rfl (Nat.le_of_ble_eq_true rfl) ⟨Nat.le_of_ble_eq_true rfl, Nat.le_of_ble_eq_true rfl⟩ ⟨Nat.le_of_ble_eq_true rfl, Nat.le_of_ble_eq_true rfl⟩ dX5_fewestOf_25 (fun r7 M6 => ?_)
        refine ts_callSi C [ts_v y2, ts_v r7] (mJ9_min_7cf53 hl) kJ9_min_7cf53 q_483 rfl rfl (Nat.le_of_ble_eq_true rfl) ⟨Nat.le_of_ble_eq_true rfl, Nat.le_of_ble_eq_true rfl⟩ ⟨Nat.le_of_ble_eq_true rfl, Nat.le_of_ble_eq_true rfl⟩ dX5_fewestOf_28 (fun r9 M8 => ?_)
        refine ts_istore_n C dX5_fewestOf_31 rfl (by decide) (lv' := fun x10 => [(2, ts_v x10), (0, .ref (ts_ad g 155)), (1, ts_v y1), (3, ts_v y3)]) (fun _ => rfl) (fun x10 => ?_)
        exact ts_sub [1, 2, 0, 3] rfl (H32 k5 hk5 _ _ _ _)
  revert h0
  unfold wX5_fewestOf
  have hl0 : lv_args 0 [.ref (ts_ad g 155), ts_v p1] = [(0, .ref (ts_ad g 155)), (1, ts_v p1)] := rfl
  rw [hl0]
  refine ts_ldc C dX5_fewestOf_0 q_505 1000000 (by decide) ?_
  refine ts_istore_n C dX5_fewestOf_2 rfl (by decide) (lv' := fun x1 => [(2, ts_v x1), (0, .ref (ts_ad g 155)), (1, ts_v p1)]) (fun _ => rfl) (fun x1 => ?_)
  refine ts_iconst C dX5_fewestOf_3 0 rfl ?_
  refine ts_istore_n C dX5_fewestOf_4 rfl (by decide) (lv' := fun x2 => [(3, ts_v x2), (2, ts_v x1), (0, .ref (ts_ad g 155)), (1, ts_v p1)]) (fun _ => rfl) (fun x2 => ?_)
  rintro ⟨n, hn⟩
  exact ts_sub [2, 3, 1, 0] rfl (H5 n _ _ _ _) hn
def wX5_leadsToAll_B69   (Q : Int → ts_M → Prop)  (z0 : Int) (M : ts_M) : Prop :=
  ((ts_w z0 = 0 ∨ ts_w z0 = 1) ∧ Q z0 M)
def wX5_leadsToAll_B44  (k6 : Int → Int → ts_M → Prop) (k17 : Int → Int → Int → ts_M → Prop) (Q : Int → ts_M → Prop)  (y2 : Int) (y3 : Int) (y4 : Int) (M : ts_M) : Prop :=
  (∀ x9 : Int, x9 = y4 + 1 → k17 y2 y3 x9 M)
def wX5_leadsToAll_L17  (k6 : Int → Int → ts_M → Prop) (Q : Int → ts_M → Prop) (k17 : Int → Int → Int → ts_M → Prop) (y2 : Int) (y3 : Int) (y4 : Int) (M : ts_M) : Prop :=
  ((ts_w (M.1 155 2) ≤ ts_w y4 → (∀ x6 : Int, x6 = y3 + 1 → k6 y2 x6 M)) ∧ (¬ (ts_w (M.1 155 2) ≤ ts_w y4) → (wX5_isIn y4 y2 (fun r8 M7 => ((ts_w r8 = 0 → wX5_leadsToAll_B44 k6 k17 Q y2 y3 y4 M7) ∧ (¬ (ts_w r8 = 0) → (wX5_notBeating y4 (fun r11 M10 => (∀ x12 : Int, x12 = ts_or y2 r11 → wX5_leadsToAll_B44 k6 k17 Q x12 y3 y4 M10)) M7)))) M)))
def wX5_leadsToAll_L6   (Q : Int → ts_M → Prop) (k6 : Int → Int → ts_M → Prop) (y2 : Int) (y3 : Int) (M : ts_M) : Prop :=
  ((ts_w (M.1 155 2) ≤ ts_w y3 → (wX5_allPlaces  (fun r4 M3 => ((¬ (ts_w y2 = ts_w r4) → wX5_leadsToAll_B69 Q 0 M3) ∧ (ts_w y2 = ts_w r4 → wX5_leadsToAll_B69 Q 1 M3))) M)) ∧ (¬ (ts_w (M.1 155 2) ≤ ts_w y3) → (∀ x5 : Int, x5 = 0 → ∃ n, ts_lp3 (wX5_leadsToAll_L17 k6 Q) n y2 y3 x5 M)))
def wX5_leadsToAll (p1 : Int) (Q : Int → ts_M → Prop) (M : ts_M) : Prop :=
  (∀ x1 : Int, x1 = ts_shl 1 p1 → (∀ x2 : Int, x2 = 0 → ∃ n, ts_lp2 (wX5_leadsToAll_L6 Q) n x1 x2 M))
set_option maxRecDepth 100000 in
set_option maxHeartbeats 4000000 in
theorem mX5_leadsToAll {l : Launch} {g : ts_W} (hl : l.stackTraces = false) {p1 : Int} {Q : Int → ts_M → Prop} {M : ts_M} : wX5_leadsToAll p1 Q M → ts_Con l g yX5_leadsToAll cX5_leadsToAll 5 (some .boolean) 2 0 0 [.ref (ts_ad g 155), ts_v p1] M (ts_Ri Q) := by
  intro h0
  refine ts_Con.of hl (by decide) (Nat.le_of_ble_eq_true rfl) ?_
  intro p e s m args below meth c C
  have H69 : ∀ (z0 : Int) (M : ts_M), wX5_leadsToAll_B69   Q z0 M → ts_V p l e (ts_rm 2 0 0) s m args below meth c g 5 0 0 (MQ below (ts_Q g (ts_Ri Q)) args s 0 0 (ts_A g)) 69 [] [ts_v z0] M := by
    intro  z0 M
    unfold wX5_leadsToAll_B69
    exact ts_zreti C (Nat.zero_le _) (Nat.zero_le _) dX5_leadsToAll_69
  have H44 : ∀ (k6 : Int → Int → ts_M → Prop) (hk6 : ∀ (y2 : Int) (y3 : Int) (M : ts_M), k6 y2 y3 M → ts_V p l e (ts_rm 2 0 0) s m args below meth c g 5 0 0 (MQ below (ts_Q g (ts_Ri Q)) args s 0 0 (ts_A g)) 6 [(0, .ref (ts_ad g 155)), (2, ts_v y2), (3, ts_v y3)] [] M) (k17 : Int → Int → Int → ts_M → Prop) (hk17 : ∀ (y2 : Int) (y3 : Int) (y4 : Int) (M : ts_M), k17 y2 y3 y4 M → ts_V p l e (ts_rm 2 0 0) s m args below meth c g 5 0 0 (MQ below (ts_Q g (ts_Ri Q)) args s 0 0 (ts_A g)) 17 [(0, .ref (ts_ad g 155)), (2, ts_v y2), (3, ts_v y3), (4, ts_v y4)] [] M) (y2 : Int) (y3 : Int) (y4 : Int) (M : ts_M), wX5_leadsToAll_B44  k6 k17 Q y2 y3 y4 M → ts_V p l e (ts_rm 2 0 0) s m args below meth c g 5 0 0 (MQ below (ts_Q g (ts_Ri Q)) args s 0 0 (ts_A g)) 44 [(0, .ref (ts_ad g 155)), (2, ts_v y2), (3, ts_v y3), (4, ts_v y4)] [] M := by
    intro k6 hk6 k17 hk17 y2 y3 y4 M
    unfold wX5_leadsToAll_B44
    refine ts_iinc C dX5_leadsToAll_44 3 rfl (by decide) (lv' := fun x9 => [(4, ts_v x9), (0, .ref (ts_ad g 155)), (2, ts_v y2), (3, ts_v y3)]) (fun _ => rfl) (fun x9 => ?_)
    refine ts_goto C 17 dX5_leadsToAll_47 rfl ?_
    exact ts_sub [1, 2, 3, 0] rfl (hk17 _ _ _ _)
  have H17 : ∀ (k6 : Int → Int → ts_M → Prop) (hk6 : ∀ (y2 : Int) (y3 : Int) (M : ts_M), k6 y2 y3 M → ts_V p l e (ts_rm 2 0 0) s m args below meth c g 5 0 0 (MQ below (ts_Q g (ts_Ri Q)) args s 0 0 (ts_A g)) 6 [(0, .ref (ts_ad g 155)), (2, ts_v y2), (3, ts_v y3)] [] M) (n : Nat) (y2 : Int) (y3 : Int) (y4 : Int) (M : ts_M), ts_lp3 (wX5_leadsToAll_L17  k6 Q) n y2 y3 y4 M → ts_V p l e (ts_rm 2 0 0) s m args below meth c g 5 0 0 (MQ below (ts_Q g (ts_Ri Q)) args s 0 0 (ts_A g)) 17 [(0, .ref (ts_ad g 155)), (2, ts_v y2), (3, ts_v y3), (4, ts_v y4)] [] M := by
    intro k6 hk6
    refine ts_lpr3 (V := fun (y2 : Int) (y3 : Int) (y4 : Int) (M : ts_M) => ts_V p l e (ts_rm 2 0 0) s m args below meth c g 5 0 0 (MQ below (ts_Q g (ts_Ri Q)) args s 0 0 (ts_A g)) 17 [(0, .ref (ts_ad g 155)), (2, ts_v y2), (3, ts_v y3), (4, ts_v y4)] [] M) ?_
    intro k17 hk17 y2 y3 y4 M
    unfold wX5_leadsToAll_L17
    refine ts_iload C dX5_leadsToAll_17 3 rfl ?_
    refine ts_aload_n C dX5_leadsToAll_19 rfl 0 rfl ?_
    refine tgX5_2 C q_355 dX5_leadsToAll_20 ?_
    refine ts_cmp_ge C rfl rfl 50 dX5_leadsToAll_23 rfl ?_ ?_
    · refine ts_iinc C dX5_leadsToAll_50 2 rfl (by decide) (lv' := fun x6 => [(3, ts_v x6), (0, .ref (ts_ad g 155)), (2, ts_v y2), (4, ts_v y4)]) (fun _ => rfl) (fun x6 => ?_)
      refine ts_goto C 6 dX5_leadsToAll_53 rfl ?_
      exact ts_sub [1, 2, 0] rfl (hk6 _ _ _)
    · refine ts_iload C dX5_leadsToAll_26 3 rfl ?_
      refine ts_iload_n C dX5_leadsToAll_28 rfl 1 rfl ?_
      refine ts_callSi C [ts_v y4, ts_v y2] (mX5_isIn hl) kX5_isIn q_506 rfl rfl (Nat.le_of_ble_eq_true rfl) ⟨Nat.le_of_ble_eq_true rfl, Nat.le_of_ble_eq_true rfl⟩ ⟨Nat.le_of_ble_eq_true rfl, Nat.le_of_ble_eq_true rfl⟩ dX5_leadsToAll_29 (fun r8 M7 => ?_)
      refine ts_cm0_eq C rfl 44 dX5_leadsToAll_32 rfl ?_ ?_
      · exact ts_sub [0, 1, 2, 3] rfl (H44 k6 hk6 k17 hk17 _ _ _ _)
      · refine ts_iload_n C dX5_leadsToAll_35 rfl 1 rfl ?_
        refine ts_aload_n C dX5_leadsToAll_36 rfl 0 rfl ?_
        refine ts_iload C dX5_leadsToAll_37 3 rfl ?_
        refine ts_callVi C [ts_v y4] (mX5_notBeating hl) kX5_notBeating q_628 (by decide) shX5 rfl rfl rfl (Nat.le_of_ble_eq_true rfl) ⟨Nat.le_of_ble_eq_true rfl, Nat.le_of_ble_eq_true rfl⟩ ⟨Nat.le_of_ble_eq_true rfl, Nat.le_of_ble_eq_true rfl⟩ dX5_leadsToAll_39 (fun r11 M10 => ?_)
        refine ts_ior C dX5_leadsToAll_42 ?_
        refine ts_istore_n C dX5_leadsToAll_43 rfl (by decide) (lv' := fun x12 => [(2, ts_v x12), (0, .ref (ts_ad g 155)), (3, ts_v y3), (4, ts_v y4)]) (fun _ => rfl) (fun x12 => ?_)
        exact ts_sub [1, 0, 2, 3] rfl (H44 k6 hk6 k17 hk17 _ _ _ _)
  have H6 : ∀ (n : Nat) (y2 : Int) (y3 : Int) (M : ts_M), ts_lp2 (wX5_leadsToAll_L6   Q) n y2 y3 M → ts_V p l e (ts_rm 2 0 0) s m args below meth c g 5 0 0 (MQ below (ts_Q g (ts_Ri Q)) args s 0 0 (ts_A g)) 6 [(0, .ref (ts_ad g 155)), (2, ts_v y2), (3, ts_v y3)] [] M := by
    refine ts_lpr2 (V := fun (y2 : Int) (y3 : Int) (M : ts_M) => ts_V p l e (ts_rm 2 0 0) s m args below meth c g 5 0 0 (MQ below (ts_Q g (ts_Ri Q)) args s 0 0 (ts_A g)) 6 [(0, .ref (ts_ad g 155)), (2, ts_v y2), (3, ts_v y3)] [] M) ?_
    intro k6 hk6 y2 y3 M
    unfold wX5_leadsToAll_L6
    refine ts_iload_n C dX5_leadsToAll_6 rfl 2 rfl ?_
    refine ts_aload_n C dX5_leadsToAll_7 rfl 0 rfl ?_
    refine tgX5_2 C q_355 dX5_leadsToAll_8 ?_
    refine ts_cmp_ge C rfl rfl 56 dX5_leadsToAll_11 rfl ?_ ?_
    · refine ts_iload_n C dX5_leadsToAll_56 rfl 1 rfl ?_
      refine ts_aload_n C dX5_leadsToAll_57 rfl 0 rfl ?_
      refine ts_callVi C [] (mX5_allPlaces hl) kX5_allPlaces q_497 (by decide) shX5 rfl rfl rfl (Nat.le_of_ble_eq_true rfl) ⟨Nat.le_of_ble_eq_true rfl, Nat.le_of_ble_eq_true rfl⟩ ⟨Nat.le_of_ble_eq_true rfl, Nat.le_of_ble_eq_true rfl⟩ dX5_leadsToAll_58 (fun r4 M3 => ?_)
      refine ts_cmp_ne C rfl rfl 68 dX5_leadsToAll_61 rfl ?_ ?_
      · refine ts_iconst C dX5_leadsToAll_68 0 rfl ?_
        exact ts_sub [] rfl (H69 _ _)
      · refine ts_iconst C dX5_leadsToAll_64 1 rfl ?_
        refine ts_goto C 69 dX5_leadsToAll_65 rfl ?_
        exact ts_sub [] rfl (H69 _ _)
    · refine ts_iconst C dX5_leadsToAll_14 0 rfl ?_
      refine ts_istore C dX5_leadsToAll_15 (by decide) (lv' := fun x5 => [(4, ts_v x5), (0, .ref (ts_ad g 155)), (2, ts_v y2), (3, ts_v y3)]) (fun _ => rfl) (fun x5 => ?_)
      rintro ⟨n, hn⟩
      exact ts_sub [1, 2, 3, 0] rfl (H17 k6 hk6 n _ _ _ _) hn
  revert h0
  unfold wX5_leadsToAll
  have hl0 : lv_args 0 [.ref (ts_ad g 155), ts_v p1] = [(0, .ref (ts_ad g 155)), (1, ts_v p1)] := rfl
  rw [hl0]
  refine ts_iconst C dX5_leadsToAll_0 1 rfl ?_
  refine ts_iload_n C dX5_leadsToAll_1 rfl 1 rfl ?_
  refine ts_ishl C dX5_leadsToAll_2 ?_
  refine ts_istore_n C dX5_leadsToAll_3 rfl (by decide) (lv' := fun x1 => [(2, ts_v x1), (0, .ref (ts_ad g 155)), (1, ts_v p1)]) (fun _ => rfl) (fun x1 => ?_)
  refine ts_iconst C dX5_leadsToAll_4 0 rfl ?_
  refine ts_istore_n C dX5_leadsToAll_5 rfl (by decide) (lv' := fun x2 => [(3, ts_v x2), (2, ts_v x1), (0, .ref (ts_ad g 155)), (1, ts_v p1)]) (fun _ => rfl) (fun x2 => ?_)
  rintro ⟨n, hn⟩
  exact ts_sub [2, 1, 0] rfl (H6 n _ _ _) hn
def wX7_takeNumber_B97   (Q : Int → ts_M → Prop)  (z0 : Int) (M : ts_M) : Prop :=
  ((ts_w z0 = 0 ∨ ts_w z0 = 1) ∧ Q z0 M)
def wX7_takeNumber_B87   (Q : Int → ts_M → Prop)  (y4 : Int) (M : ts_M) : Prop :=
  ((ts_w y4 ≤ 0 → wX7_takeNumber_B97 Q 0 M) ∧ (¬ (ts_w y4 ≤ 0) → wX7_takeNumber_B97 Q 1 M))
def wX7_takeNumber_B75   (Q : Int → ts_M → Prop)  (y2 : Int) (y3 : Int) (y4 : Int) (M : ts_M) : Prop :=
  ((ts_w y4 ≤ 0 → wX7_takeNumber_B87 Q y4 M) ∧ (¬ (ts_w y4 ≤ 0) → (wX7_keepArgument (y2 * y3) (fun M3 => wX7_takeNumber_B87 Q y4 M3) M)))
def wX7_takeNumber_L5   (Q : Int → ts_M → Prop) (k5 : Int → Int → Int → Int → ts_M → Prop) (y1 : Int) (y2 : Int) (y3 : Int) (y4 : Int) (M : ts_M) : Prop :=
  ((ts_w y1 ≤ ts_w y4 → wX7_takeNumber_B75 Q y2 y3 y4 M) ∧ (¬ (ts_w y1 ≤ ts_w y4) → ((ts_w (M.1 160 3) ≤ ts_w (M.1 160 5) → wX7_takeNumber_B75 Q y2 y3 y4 M) ∧ (¬ (ts_w (M.1 160 3) ≤ ts_w (M.1 160 5)) → ((0 ≤ ts_w (M.1 160 5) ∧ ts_w (M.1 160 5) < ((60 : Nat) : Int)) ∧ (wX11_isBetween (M.1 161 (ts_w (M.1 160 5))) 48 57 (fun r5 M4 => ((ts_w r5 = 0 → wX7_takeNumber_B75 Q y2 y3 y4 M4) ∧ (¬ (ts_w r5 = 0) → ((0 ≤ ts_w (M4.1 160 5) ∧ ts_w (M4.1 160 5) < ((60 : Nat) : Int)) ∧ (∀ x6 : Int, x6 = ((y3 * 10) + (M4.1 161 (ts_w (M4.1 160 5)))) - 48 → (∀ M7, M7 = ts_si M4 160 5 ((M4.1 160 5) + 1) → (∀ x8 : Int, x8 = y4 + 1 → k5 y1 y2 x6 x8 M7))))))) M))))))
def wX7_takeNumber (p1 : Int) (p2 : Int) (Q : Int → ts_M → Prop) (M : ts_M) : Prop :=
  (∀ x1 : Int, x1 = 0 → (∀ x2 : Int, x2 = 0 → ∃ n, ts_lp4 (wX7_takeNumber_L5 Q) n p1 p2 x1 x2 M))
set_option maxRecDepth 100000 in
set_option maxHeartbeats 4000000 in
theorem mX7_takeNumber {l : Launch} {g : ts_W} (hl : l.stackTraces = false) {p1 : Int} {p2 : Int} {Q : Int → ts_M → Prop} {M : ts_M} : wX7_takeNumber p1 p2 Q M → ts_Con l g yX7_takeNumber cX7_takeNumber 5 (some .boolean) 1 0 0 [.ref (ts_ad g 160), ts_v p1, ts_v p2] M (ts_Ri Q) := by
  intro h0
  refine ts_Con.of hl (by decide) (Nat.le_of_ble_eq_true rfl) ?_
  intro p e s m args below meth c C
  have H97 : ∀ (z0 : Int) (M : ts_M), wX7_takeNumber_B97   Q z0 M → ts_V p l e (ts_rm 1 0 0) s m args below meth c g 5 0 0 (MQ below (ts_Q g (ts_Ri Q)) args s 0 0 (ts_A g)) 97 [] [ts_v z0] M := by
    intro  z0 M
    unfold wX7_takeNumber_B97
    exact ts_zreti C (Nat.zero_le _) (Nat.zero_le _) dX7_takeNumber_97
  have H87 : ∀ (y4 : Int) (M : ts_M), wX7_takeNumber_B87   Q y4 M → ts_V p l e (ts_rm 1 0 0) s m args below meth c g 5 0 0 (MQ below (ts_Q g (ts_Ri Q)) args s 0 0 (ts_A g)) 87 [(4, ts_v y4)] [] M := by
    intro  y4 M
    unfold wX7_takeNumber_B87
    refine ts_iload C dX7_takeNumber_87 0 rfl ?_
    refine ts_cm0_le C rfl 96 dX7_takeNumber_89 rfl ?_ ?_
    · refine ts_iconst C dX7_takeNumber_96 0 rfl ?_
      exact ts_sub [] rfl (H97 _ _)
    · refine ts_iconst C dX7_takeNumber_92 1 rfl ?_
      refine ts_goto C 97 dX7_takeNumber_93 rfl ?_
      exact ts_sub [] rfl (H97 _ _)
  have H75 : ∀ (y2 : Int) (y3 : Int) (y4 : Int) (M : ts_M), wX7_takeNumber_B75   Q y2 y3 y4 M → ts_V p l e (ts_rm 1 0 0) s m args below meth c g 5 0 0 (MQ below (ts_Q g (ts_Ri Q)) args s 0 0 (ts_A g)) 75 [(0, .ref (ts_ad g 160)), (2, ts_v y2), (3, ts_v y3), (4, ts_v y4)] [] M := by
    intro  y2 y3 y4 M
    unfold wX7_takeNumber_B75
    refine ts_iload C dX7_takeNumber_75 3 rfl ?_
    refine ts_cm0_le C rfl 87 dX7_takeNumber_77 rfl ?_ ?_
    · exact ts_sub [3] rfl (H87 _ _)
    · refine ts_aload_n C dX7_takeNumber_80 rfl 0 rfl ?_
      refine ts_iload_n C dX7_takeNumber_81 rfl 1 rfl ?_
      refine ts_iload_n C dX7_takeNumber_82 rfl 2 rfl ?_
      refine ts_imul C dX7_takeNumber_83 ?_
      refine ts_callVv C [ts_v (y2 * y3)] (mX7_keepArgument hl) kX7_keepArgument q_1880 (by decide) shX7 rfl rfl rfl (Nat.le_of_ble_eq_true rfl) ⟨Nat.le_of_ble_eq_true rfl, Nat.le_of_ble_eq_true rfl⟩ ⟨Nat.le_of_ble_eq_true rfl, Nat.le_of_ble_eq_true rfl⟩ dX7_takeNumber_84 (fun M3 => ?_)
      exact ts_sub [3] rfl (H87 _ _)
  have H5 : ∀ (n : Nat) (y1 : Int) (y2 : Int) (y3 : Int) (y4 : Int) (M : ts_M), ts_lp4 (wX7_takeNumber_L5   Q) n y1 y2 y3 y4 M → ts_V p l e (ts_rm 1 0 0) s m args below meth c g 5 0 0 (MQ below (ts_Q g (ts_Ri Q)) args s 0 0 (ts_A g)) 5 [(0, .ref (ts_ad g 160)), (1, ts_v y1), (2, ts_v y2), (3, ts_v y3), (4, ts_v y4)] [] M := by
    refine ts_lpr4 (V := fun (y1 : Int) (y2 : Int) (y3 : Int) (y4 : Int) (M : ts_M) => ts_V p l e (ts_rm 1 0 0) s m args below meth c g 5 0 0 (MQ below (ts_Q g (ts_Ri Q)) args s 0 0 (ts_A g)) 5 [(0, .ref (ts_ad g 160)), (1, ts_v y1), (2, ts_v y2), (3, ts_v y3), (4, ts_v y4)] [] M) ?_
    intro k5 hk5 y1 y2 y3 y4 M
    unfold wX7_takeNumber_L5
    refine ts_iload C dX7_takeNumber_5 4 rfl ?_
    refine ts_iload_n C dX7_takeNumber_7 rfl 1 rfl ?_
    refine ts_cmp_ge C rfl rfl 75 dX7_takeNumber_8 rfl ?_ ?_
    · exact ts_sub [0, 2, 3, 4] rfl (H75 _ _ _ _)
    · refine ts_aload_n C dX7_takeNumber_11 rfl 0 rfl ?_
      refine tgX7_5 C q_377 dX7_takeNumber_12 ?_
      refine ts_aload_n C dX7_takeNumber_15 rfl 0 rfl ?_
      refine tgX7_3 C q_374 dX7_takeNumber_16 ?_
      refine ts_cmp_ge C rfl rfl 75 dX7_takeNumber_19 rfl ?_ ?_
      · exact ts_sub [0, 2, 3, 4] rfl (H75 _ _ _ _)
      · refine ts_aload_n C dX7_takeNumber_22 rfl 0 rfl ?_
        refine tgX7_0 C q_371 dX7_takeNumber_23 ?_
        refine ts_aload_n C dX7_takeNumber_26 rfl 0 rfl ?_
        refine tgX7_5 C q_377 dX7_takeNumber_27 ?_
        refine ts_cald C (by decide) shG161 dX7_takeNumber_30 ?_
        refine ts_bipush C dX7_takeNumber_31 48 tb_48 ?_
        refine ts_bipush C dX7_takeNumber_33 57 tb_57 ?_
        refine ts_callSNi (host := "TeaspoonSalon") C [ts_v (M.1 161 (ts_w (M.1 160 5))), ts_v 48, ts_v 57] (mX11_isBetween hl) kX11_isBetween qn_15 rfl rfl (Nat.le_of_ble_eq_true rfl) ⟨Nat.le_of_ble_eq_true rfl, Nat.le_of_ble_eq_true rfl⟩ ⟨Nat.le_of_ble_eq_true rfl, Nat.le_of_ble_eq_true rfl⟩ dX7_takeNumber_35 (fun r5 M4 => ?_)
        refine ts_cm0_eq C rfl 75 dX7_takeNumber_38 rfl ?_ ?_
        · exact ts_sub [0, 2, 3, 4] rfl (H75 _ _ _ _)
        · refine ts_iload_n C dX7_takeNumber_41 rfl 3 rfl ?_
          refine ts_bipush C dX7_takeNumber_42 10 tb_10 ?_
          refine ts_imul C dX7_takeNumber_44 ?_
          refine ts_aload_n C dX7_takeNumber_45 rfl 0 rfl ?_
          refine tgX7_0 C q_371 dX7_takeNumber_46 ?_
          refine ts_aload_n C dX7_takeNumber_49 rfl 0 rfl ?_
          refine tgX7_5 C q_377 dX7_takeNumber_50 ?_
          refine ts_cald C (by decide) shG161 dX7_takeNumber_53 ?_
          refine ts_iadd C dX7_takeNumber_54 ?_
          refine ts_bipush C dX7_takeNumber_55 48 tb_48 ?_
          refine ts_isub C dX7_takeNumber_57 ?_
          refine ts_istore_n C dX7_takeNumber_58 rfl (by decide) (lv' := fun x6 => [(3, ts_v x6), (0, .ref (ts_ad g 160)), (1, ts_v y1), (2, ts_v y2), (4, ts_v y4)]) (fun _ => rfl) (fun x6 => ?_)
          refine ts_aload_n C dX7_takeNumber_59 rfl 1 rfl ?_
          refine ts_dup C dX7_takeNumber_60 rfl ?_
          refine tgX7_5 C q_377 dX7_takeNumber_61 ?_
          refine ts_iconst C dX7_takeNumber_64 1 rfl ?_
          refine ts_iadd C dX7_takeNumber_65 ?_
          refine tpX7_5 C q_377 dX7_takeNumber_66 (fun M7 => ?_)
          refine ts_iinc C dX7_takeNumber_69 4 rfl (by decide) (lv' := fun x8 => [(4, ts_v x8), (3, ts_v x6), (0, .ref (ts_ad g 160)), (1, ts_v y1), (2, ts_v y2)]) (fun _ => rfl) (fun x8 => ?_)
          refine ts_goto C 5 dX7_takeNumber_72 rfl ?_
          exact ts_sub [2, 3, 4, 1, 0] rfl (hk5 _ _ _ _ _)
  revert h0
  unfold wX7_takeNumber
  have hl0 : lv_args 0 [.ref (ts_ad g 160), ts_v p1, ts_v p2] = [(0, .ref (ts_ad g 160)), (1, ts_v p1), (2, ts_v p2)] := rfl
  rw [hl0]
  refine ts_iconst C dX7_takeNumber_0 0 rfl ?_
  refine ts_istore_n C dX7_takeNumber_1 rfl (by decide) (lv' := fun x1 => [(3, ts_v x1), (0, .ref (ts_ad g 160)), (1, ts_v p1), (2, ts_v p2)]) (fun _ => rfl) (fun x1 => ?_)
  refine ts_iconst C dX7_takeNumber_2 0 rfl ?_
  refine ts_istore C dX7_takeNumber_3 (by decide) (lv' := fun x2 => [(4, ts_v x2), (3, ts_v x1), (0, .ref (ts_ad g 160)), (1, ts_v p1), (2, ts_v p2)]) (fun _ => rfl) (fun x2 => ?_)
  rintro ⟨n, hn⟩
  exact ts_sub [2, 3, 4, 1, 0] rfl (H5 n _ _ _ _ _) hn
def wX8_weightSum (b : Nat) (Q : Int → ts_M → Prop) (M : ts_M) : Prop :=
  (wX8_sumOf b (b + 2) (fun r2 M1 => Q r2 M1) M)
set_option maxRecDepth 100000 in
set_option maxHeartbeats 4000000 in
theorem mX8_weightSum {l : Launch} {g : ts_W} (hl : l.stackTraces = false) {b : Nat} (hb : ts_isS b) {Q : Int → ts_M → Prop} {M : ts_M} : wX8_weightSum b Q M → ts_Con l g yX8_weightSum cX8_weightSum 1 (some .int) 1 0 0 [.ref (ts_ad g (b + 1))] M (ts_Ri Q) := by
  intro h0
  refine ts_Con.of hl (by decide) (Nat.le_of_ble_eq_true rfl) ?_
  intro p e s m args below meth c C
  revert h0
  unfold wX8_weightSum
  have hl0 : lv_args 0 [.ref (ts_ad g (b + 1))] = [(0, .ref (ts_ad g (b + 1)))] := rfl
  rw [hl0]
  refine ts_aload_n C dX8_weightSum_0 rfl 0 rfl ?_
  refine ts_aload_n C dX8_weightSum_1 rfl 0 rfl ?_
  refine tgX8_0 hb C q_178 dX8_weightSum_2 ?_
  refine ts_callVi C [.ref (ts_ad g (b + 2))] (mX8_sumOf hl hb (ts_lt hb 2 (by decide)) (shS2 hb)) kX8_sumOf q_586 (ts_lt hb 1 (by decide)) (shX8 hb) rfl rfl rfl (Nat.le_of_ble_eq_true rfl) ⟨Nat.le_of_ble_eq_true rfl, Nat.le_of_ble_eq_true rfl⟩ ⟨Nat.le_of_ble_eq_true rfl, Nat.le_of_ble_eq_true rfl⟩ dX8_weightSum_5 (fun r2 M1 => ?_)
  exact ts_ireti C (Nat.zero_le _) (Nat.zero_le _) dX8_weightSum_8
def wX8_stanceSum (b : Nat) (Q : Int → ts_M → Prop) (M : ts_M) : Prop :=
  (wX8_sumOf b (b + 3) (fun r2 M1 => Q r2 M1) M)
set_option maxRecDepth 100000 in
set_option maxHeartbeats 4000000 in
theorem mX8_stanceSum {l : Launch} {g : ts_W} (hl : l.stackTraces = false) {b : Nat} (hb : ts_isS b) {Q : Int → ts_M → Prop} {M : ts_M} : wX8_stanceSum b Q M → ts_Con l g yX8_stanceSum cX8_stanceSum 1 (some .int) 1 0 0 [.ref (ts_ad g (b + 1))] M (ts_Ri Q) := by
  intro h0
  refine ts_Con.of hl (by decide) (Nat.le_of_ble_eq_true rfl) ?_
  intro p e s m args below meth c C
  revert h0
  unfold wX8_stanceSum
  have hl0 : lv_args 0 [.ref (ts_ad g (b + 1))] = [(0, .ref (ts_ad g (b + 1)))] := rfl
  rw [hl0]
  refine ts_aload_n C dX8_stanceSum_0 rfl 0 rfl ?_
  refine ts_aload_n C dX8_stanceSum_1 rfl 0 rfl ?_
  refine tgX8_1 hb C q_181 dX8_stanceSum_2 ?_
  refine ts_callVi C [.ref (ts_ad g (b + 3))] (mX8_sumOf hl hb (ts_lt hb 3 (by decide)) (shS3 hb)) kX8_sumOf q_586 (ts_lt hb 1 (by decide)) (shX8 hb) rfl rfl rfl (Nat.le_of_ble_eq_true rfl) ⟨Nat.le_of_ble_eq_true rfl, Nat.le_of_ble_eq_true rfl⟩ ⟨Nat.le_of_ble_eq_true rfl, Nat.le_of_ble_eq_true rfl⟩ dX8_stanceSum_5 (fun r2 M1 => ?_)
  exact ts_ireti C (Nat.zero_le _) (Nat.zero_le _) dX8_stanceSum_8
def wX8_countedLumps (b : Nat) (Q : Int → ts_M → Prop) (M : ts_M) : Prop :=
  (wX8_sumOf b (b + 4) (fun r2 M1 => Q r2 M1) M)
set_option maxRecDepth 100000 in
set_option maxHeartbeats 4000000 in
theorem mX8_countedLumps {l : Launch} {g : ts_W} (hl : l.stackTraces = false) {b : Nat} (hb : ts_isS b) {Q : Int → ts_M → Prop} {M : ts_M} : wX8_countedLumps b Q M → ts_Con l g yX8_countedLumps cX8_countedLumps 1 (some .int) 1 0 0 [.ref (ts_ad g (b + 1))] M (ts_Ri Q) := by
  intro h0
  refine ts_Con.of hl (by decide) (Nat.le_of_ble_eq_true rfl) ?_
  intro p e s m args below meth c C
  revert h0
  unfold wX8_countedLumps
  have hl0 : lv_args 0 [.ref (ts_ad g (b + 1))] = [(0, .ref (ts_ad g (b + 1)))] := rfl
  rw [hl0]
  refine ts_aload_n C dX8_countedLumps_0 rfl 0 rfl ?_
  refine ts_aload_n C dX8_countedLumps_1 rfl 0 rfl ?_
  refine tgX8_2 hb C q_184 dX8_countedLumps_2 ?_
  refine ts_callVi C [.ref (ts_ad g (b + 4))] (mX8_sumOf hl hb (ts_lt hb 4 (by decide)) (shS4 hb)) kX8_sumOf q_586 (ts_lt hb 1 (by decide)) (shX8 hb) rfl rfl rfl (Nat.le_of_ble_eq_true rfl) ⟨Nat.le_of_ble_eq_true rfl, Nat.le_of_ble_eq_true rfl⟩ ⟨Nat.le_of_ble_eq_true rfl, Nat.le_of_ble_eq_true rfl⟩ dX8_countedLumps_5 (fun r2 M1 => ?_)
  exact ts_ireti C (Nat.zero_le _) (Nat.zero_le _) dX8_countedLumps_8
def wX8_preferring_B51 (b : Nat) (k5 : Int → Int → Int → Int → ts_M → Prop) (Q : Int → ts_M → Prop)  (y1 : Int) (y2 : Int) (y3 : Int) (y4 : Int) (M : ts_M) : Prop :=
  (∀ x7 : Int, x7 = y4 + 1 → k5 y1 y2 y3 x7 M)
def wX8_preferring_L5 (b : Nat)  (Q : Int → ts_M → Prop) (k5 : Int → Int → Int → Int → ts_M → Prop) (y1 : Int) (y2 : Int) (y3 : Int) (y4 : Int) (M : ts_M) : Prop :=
  ((ts_w (M.1 (b + 1) 4) ≤ ts_w y4 → Q y3 M) ∧ (¬ (ts_w (M.1 (b + 1) 4) ≤ ts_w y4) → ((0 ≤ ts_w y4 ∧ ts_w y4 < ((8 : Nat) : Int)) ∧ (wJ9_abs_0f7a4 (y1 - (M.1 (b + 3) (ts_w y4))) (fun r4 M3 => ((0 ≤ ts_w y4 ∧ ts_w y4 < ((8 : Nat) : Int)) ∧ (wJ9_abs_0f7a4 (y2 - (M3.1 (b + 3) (ts_w y4))) (fun r6 M5 => ((ts_w r6 ≤ ts_w r4 → wX8_preferring_B51 b k5 Q y1 y2 y3 y4 M5) ∧ (¬ (ts_w r6 ≤ ts_w r4) → ((0 ≤ ts_w y4 ∧ ts_w y4 < ((8 : Nat) : Int)) ∧ (∀ x8 : Int, x8 = y3 + (M5.1 (b + 2) (ts_w y4)) → wX8_preferring_B51 b k5 Q y1 y2 x8 y4 M5))))) M3))) M))))
def wX8_preferring (b : Nat) (p1 : Int) (p2 : Int) (Q : Int → ts_M → Prop) (M : ts_M) : Prop :=
  (∀ x1 : Int, x1 = 0 → (∀ x2 : Int, x2 = 0 → ∃ n, ts_lp4 (wX8_preferring_L5 b Q) n p1 p2 x1 x2 M))
set_option maxRecDepth 100000 in
set_option maxHeartbeats 4000000 in
theorem mX8_preferring {l : Launch} {g : ts_W} (hl : l.stackTraces = false) {b : Nat} (hb : ts_isS b) {p1 : Int} {p2 : Int} {Q : Int → ts_M → Prop} {M : ts_M} : wX8_preferring b p1 p2 Q M → ts_Con l g yX8_preferring cX8_preferring 5 (some .int) 1 0 0 [.ref (ts_ad g (b + 1)), ts_v p1, ts_v p2] M (ts_Ri Q) := by
  intro h0
  refine ts_Con.of hl (by decide) (Nat.le_of_ble_eq_true rfl) ?_
  intro p e s m args below meth c C
  have H51 : ∀ (k5 : Int → Int → Int → Int → ts_M → Prop) (hk5 : ∀ (y1 : Int) (y2 : Int) (y3 : Int) (y4 : Int) (M : ts_M), k5 y1 y2 y3 y4 M → ts_V p l e (ts_rm 1 0 0) s m args below meth c g 5 0 0 (MQ below (ts_Q g (ts_Ri Q)) args s 0 0 (ts_A g)) 5 [(0, .ref (ts_ad g (b + 1))), (1, ts_v y1), (2, ts_v y2), (3, ts_v y3), (4, ts_v y4)] [] M) (y1 : Int) (y2 : Int) (y3 : Int) (y4 : Int) (M : ts_M), wX8_preferring_B51 b k5 Q y1 y2 y3 y4 M → ts_V p l e (ts_rm 1 0 0) s m args below meth c g 5 0 0 (MQ below (ts_Q g (ts_Ri Q)) args s 0 0 (ts_A g)) 51 [(0, .ref (ts_ad g (b + 1))), (1, ts_v y1), (2, ts_v y2), (3, ts_v y3), (4, ts_v y4)] [] M := by
    intro k5 hk5 y1 y2 y3 y4 M
    unfold wX8_preferring_B51
    refine ts_iinc C dX8_preferring_51 4 rfl (by decide) (lv' := fun x7 => [(4, ts_v x7), (0, .ref (ts_ad g (b + 1))), (1, ts_v y1), (2, ts_v y2), (3, ts_v y3)]) (fun _ => rfl) (fun x7 => ?_)
    refine ts_goto C 5 dX8_preferring_54 rfl ?_
    exact ts_sub [1, 2, 3, 4, 0] rfl (hk5 _ _ _ _ _)
  have H5 : ∀ (n : Nat) (y1 : Int) (y2 : Int) (y3 : Int) (y4 : Int) (M : ts_M), ts_lp4 (wX8_preferring_L5 b  Q) n y1 y2 y3 y4 M → ts_V p l e (ts_rm 1 0 0) s m args below meth c g 5 0 0 (MQ below (ts_Q g (ts_Ri Q)) args s 0 0 (ts_A g)) 5 [(0, .ref (ts_ad g (b + 1))), (1, ts_v y1), (2, ts_v y2), (3, ts_v y3), (4, ts_v y4)] [] M := by
    refine ts_lpr4 (V := fun (y1 : Int) (y2 : Int) (y3 : Int) (y4 : Int) (M : ts_M) => ts_V p l e (ts_rm 1 0 0) s m args below meth c g 5 0 0 (MQ below (ts_Q g (ts_Ri Q)) args s 0 0 (ts_A g)) 5 [(0, .ref (ts_ad g (b + 1))), (1, ts_v y1), (2, ts_v y2), (3, ts_v y3), (4, ts_v y4)] [] M) ?_
    intro k5 hk5 y1 y2 y3 y4 M
    unfold wX8_preferring_L5
    refine ts_iload C dX8_preferring_5 4 rfl ?_
    refine ts_aload_n C dX8_preferring_7 rfl 0 rfl ?_
    refine tgX8_4 hb C q_190 dX8_preferring_8 ?_
    refine ts_cmp_ge C rfl rfl 57 dX8_preferring_11 rfl ?_ ?_
    · refine ts_iload_n C dX8_preferring_57 rfl 3 rfl ?_
      exact ts_ireti C (Nat.zero_le _) (Nat.zero_le _) dX8_preferring_58
    · refine ts_iload_n C dX8_preferring_14 rfl 1 rfl ?_
      refine ts_aload_n C dX8_preferring_15 rfl 0 rfl ?_
      refine tgX8_1 hb C q_181 dX8_preferring_16 ?_
      refine ts_iload C dX8_preferring_19 4 rfl ?_
      refine ts_iald C (ts_lt hb 3 (by decide)) (shS3 hb) dX8_preferring_21 ?_
      refine ts_isub C dX8_preferring_22 ?_
      refine ts_callSi C [ts_v (y1 - (M.1 (b + 3) (ts_w y4)))] (mJ9_abs_0f7a4 hl) kJ9_abs_0f7a4 q_490 rfl rfl (Nat.le_of_ble_eq_true rfl) ⟨Nat.le_of_ble_eq_true rfl, Nat.le_of_ble_eq_true rfl⟩ ⟨Nat.le_of_ble_eq_true rfl, Nat.le_of_ble_eq_true rfl⟩ dX8_preferring_23 (fun r4 M3 => ?_)
      refine ts_iload_n C dX8_preferring_26 rfl 2 rfl ?_
      refine ts_aload_n C dX8_preferring_27 rfl 0 rfl ?_
      refine tgX8_1 hb C q_181 dX8_preferring_28 ?_
      refine ts_iload C dX8_preferring_31 4 rfl ?_
      refine ts_iald C (ts_lt hb 3 (by decide)) (shS3 hb) dX8_preferring_33 ?_
      refine ts_isub C dX8_preferring_34 ?_
      refine ts_callSi C [ts_v (y2 - (M3.1 (b + 3) (ts_w y4)))] (mJ9_abs_0f7a4 hl) kJ9_abs_0f7a4 q_490 rfl rfl (Nat.le_of_ble_eq_true rfl) ⟨Nat.le_of_ble_eq_true rfl, Nat.le_of_ble_eq_true rfl⟩ ⟨Nat.le_of_ble_eq_true rfl, Nat.le_of_ble_eq_true rfl⟩ dX8_preferring_35 (fun r6 M5 => ?_)
      refine ts_cmp_ge C rfl rfl 51 dX8_preferring_38 rfl ?_ ?_
      · exact ts_sub [0, 1, 2, 3, 4] rfl (H51 k5 hk5 _ _ _ _ _)
      · refine ts_iload_n C dX8_preferring_41 rfl 3 rfl ?_
        refine ts_aload_n C dX8_preferring_42 rfl 0 rfl ?_
        refine tgX8_0 hb C q_178 dX8_preferring_43 ?_
        refine ts_iload C dX8_preferring_46 4 rfl ?_
        refine ts_iald C (ts_lt hb 2 (by decide)) (shS2 hb) dX8_preferring_48 ?_
        refine ts_iadd C dX8_preferring_49 ?_
        refine ts_istore_n C dX8_preferring_50 rfl (by decide) (lv' := fun x8 => [(3, ts_v x8), (0, .ref (ts_ad g (b + 1))), (1, ts_v y1), (2, ts_v y2), (4, ts_v y4)]) (fun _ => rfl) (fun x8 => ?_)
        exact ts_sub [1, 2, 3, 0, 4] rfl (H51 k5 hk5 _ _ _ _ _)
  revert h0
  unfold wX8_preferring
  have hl0 : lv_args 0 [.ref (ts_ad g (b + 1)), ts_v p1, ts_v p2] = [(0, .ref (ts_ad g (b + 1))), (1, ts_v p1), (2, ts_v p2)] := rfl
  rw [hl0]
  refine ts_iconst C dX8_preferring_0 0 rfl ?_
  refine ts_istore_n C dX8_preferring_1 rfl (by decide) (lv' := fun x1 => [(3, ts_v x1), (0, .ref (ts_ad g (b + 1))), (1, ts_v p1), (2, ts_v p2)]) (fun _ => rfl) (fun x1 => ?_)
  refine ts_iconst C dX8_preferring_2 0 rfl ?_
  refine ts_istore C dX8_preferring_3 (by decide) (lv' := fun x2 => [(4, ts_v x2), (3, ts_v x1), (0, .ref (ts_ad g (b + 1))), (1, ts_v p1), (2, ts_v p2)]) (fun _ => rfl) (fun x2 => ?_)
  rintro ⟨n, hn⟩
  exact ts_sub [2, 3, 4, 1, 0] rfl (H5 n _ _ _ _ _) hn
def wX8_atSugarRank_B37 (b : Nat) (k2 : Int → Int → ts_M → Prop) (k15 : Int → Int → Int → Int → ts_M → Prop) (Q : Int → ts_M → Prop)  (y1 : Int) (y2 : Int) (y3 : Int) (y4 : Int) (M : ts_M) : Prop :=
  (∀ x7 : Int, x7 = y4 + 1 → k15 y1 y2 y3 x7 M)
def wX8_atSugarRank_L15 (b : Nat) (k2 : Int → Int → ts_M → Prop) (Q : Int → ts_M → Prop) (k15 : Int → Int → Int → Int → ts_M → Prop) (y1 : Int) (y2 : Int) (y3 : Int) (y4 : Int) (M : ts_M) : Prop :=
  ((ts_w (M.1 (b + 1) 4) ≤ ts_w y4 → ((¬ (ts_w y3 = ts_w y1) → (∀ x4 : Int, x4 = y2 + 1 → k2 y1 x4 M)) ∧ (ts_w y3 = ts_w y1 → Q y2 M))) ∧ (¬ (ts_w (M.1 (b + 1) 4) ≤ ts_w y4) → (wX8_comesBefore b y4 y2 (fun r6 M5 => ((ts_w r6 = 0 → wX8_atSugarRank_B37 b k2 k15 Q y1 y2 y3 y4 M5) ∧ (¬ (ts_w r6 = 0) → (∀ x8 : Int, x8 = y3 + 1 → wX8_atSugarRank_B37 b k2 k15 Q y1 y2 x8 y4 M5)))) M)))
def wX8_atSugarRank_L2 (b : Nat)  (Q : Int → ts_M → Prop) (k2 : Int → Int → ts_M → Prop) (y1 : Int) (y2 : Int) (M : ts_M) : Prop :=
  ((ts_w (M.1 (b + 1) 4) ≤ ts_w y2 → Q (-1) M) ∧ (¬ (ts_w (M.1 (b + 1) 4) ≤ ts_w y2) → (∀ x2 : Int, x2 = 0 → (∀ x3 : Int, x3 = 0 → ∃ n, ts_lp4 (wX8_atSugarRank_L15 b k2 Q) n y1 y2 x2 x3 M))))
def wX8_atSugarRank (b : Nat) (p1 : Int) (Q : Int → ts_M → Prop) (M : ts_M) : Prop :=
  (∀ x1 : Int, x1 = 0 → ∃ n, ts_lp2 (wX8_atSugarRank_L2 b Q) n p1 x1 M)
set_option maxRecDepth 100000 in
set_option maxHeartbeats 4000000 in
theorem mX8_atSugarRank {l : Launch} {g : ts_W} (hl : l.stackTraces = false) {b : Nat} (hb : ts_isS b) {p1 : Int} {Q : Int → ts_M → Prop} {M : ts_M} : wX8_atSugarRank b p1 Q M → ts_Con l g yX8_atSugarRank cX8_atSugarRank 5 (some .int) 2 0 0 [.ref (ts_ad g (b + 1)), ts_v p1] M (ts_Ri Q) := by
  intro h0
  refine ts_Con.of hl (by decide) (Nat.le_of_ble_eq_true rfl) ?_
  intro p e s m args below meth c C
  have H37 : ∀ (k2 : Int → Int → ts_M → Prop) (hk2 : ∀ (y1 : Int) (y2 : Int) (M : ts_M), k2 y1 y2 M → ts_V p l e (ts_rm 2 0 0) s m args below meth c g 5 0 0 (MQ below (ts_Q g (ts_Ri Q)) args s 0 0 (ts_A g)) 2 [(0, .ref (ts_ad g (b + 1))), (1, ts_v y1), (2, ts_v y2)] [] M) (k15 : Int → Int → Int → Int → ts_M → Prop) (hk15 : ∀ (y1 : Int) (y2 : Int) (y3 : Int) (y4 : Int) (M : ts_M), k15 y1 y2 y3 y4 M → ts_V p l e (ts_rm 2 0 0) s m args below meth c g 5 0 0 (MQ below (ts_Q g (ts_Ri Q)) args s 0 0 (ts_A g)) 15 [(0, .ref (ts_ad g (b + 1))), (1, ts_v y1), (2, ts_v y2), (3, ts_v y3), (4, ts_v y4)] [] M) (y1 : Int) (y2 : Int) (y3 : Int) (y4 : Int) (M : ts_M), wX8_atSugarRank_B37 b k2 k15 Q y1 y2 y3 y4 M → ts_V p l e (ts_rm 2 0 0) s m args below meth c g 5 0 0 (MQ below (ts_Q g (ts_Ri Q)) args s 0 0 (ts_A g)) 37 [(0, .ref (ts_ad g (b + 1))), (1, ts_v y1), (2, ts_v y2), (3, ts_v y3), (4, ts_v y4)] [] M := by
    intro k2 hk2 k15 hk15 y1 y2 y3 y4 M
    unfold wX8_atSugarRank_B37
    refine ts_iinc C dX8_atSugarRank_37 4 rfl (by decide) (lv' := fun x7 => [(4, ts_v x7), (0, .ref (ts_ad g (b + 1))), (1, ts_v y1), (2, ts_v y2), (3, ts_v y3)]) (fun _ => rfl) (fun x7 => ?_)
    refine ts_goto C 15 dX8_atSugarRank_40 rfl ?_
    exact ts_sub [1, 2, 3, 4, 0] rfl (hk15 _ _ _ _ _)
  have H15 : ∀ (k2 : Int → Int → ts_M → Prop) (hk2 : ∀ (y1 : Int) (y2 : Int) (M : ts_M), k2 y1 y2 M → ts_V p l e (ts_rm 2 0 0) s m args below meth c g 5 0 0 (MQ below (ts_Q g (ts_Ri Q)) args s 0 0 (ts_A g)) 2 [(0, .ref (ts_ad g (b + 1))), (1, ts_v y1), (2, ts_v y2)] [] M) (n : Nat) (y1 : Int) (y2 : Int) (y3 : Int) (y4 : Int) (M : ts_M), ts_lp4 (wX8_atSugarRank_L15 b k2 Q) n y1 y2 y3 y4 M → ts_V p l e (ts_rm 2 0 0) s m args below meth c g 5 0 0 (MQ below (ts_Q g (ts_Ri Q)) args s 0 0 (ts_A g)) 15 [(0, .ref (ts_ad g (b + 1))), (1, ts_v y1), (2, ts_v y2), (3, ts_v y3), (4, ts_v y4)] [] M := by
    intro k2 hk2
    refine ts_lpr4 (V := fun (y1 : Int) (y2 : Int) (y3 : Int) (y4 : Int) (M : ts_M) => ts_V p l e (ts_rm 2 0 0) s m args below meth c g 5 0 0 (MQ below (ts_Q g (ts_Ri Q)) args s 0 0 (ts_A g)) 15 [(0, .ref (ts_ad g (b + 1))), (1, ts_v y1), (2, ts_v y2), (3, ts_v y3), (4, ts_v y4)] [] M) ?_
    intro k15 hk15 y1 y2 y3 y4 M
    unfold wX8_atSugarRank_L15
    refine ts_iload C dX8_atSugarRank_15 4 rfl ?_
    refine ts_aload_n C dX8_atSugarRank_17 rfl 0 rfl ?_
    refine tgX8_4 hb C q_190 dX8_atSugarRank_18 ?_
    refine ts_cmp_ge C rfl rfl 43 dX8_atSugarRank_21 rfl ?_ ?_
    · refine ts_iload_n C dX8_atSugarRank_43 rfl 3 rfl ?_
      refine ts_iload_n C dX8_atSugarRank_44 rfl 1 rfl ?_
      refine ts_cmp_ne C rfl rfl 50 dX8_atSugarRank_45 rfl ?_ ?_
      · refine ts_iinc C dX8_atSugarRank_50 2 rfl (by decide) (lv' := fun x4 => [(2, ts_v x4), (0, .ref (ts_ad g (b + 1))), (1, ts_v y1), (3, ts_v y3), (4, ts_v y4)]) (fun _ => rfl) (fun x4 => ?_)
        refine ts_goto C 2 dX8_atSugarRank_53 rfl ?_
        exact ts_sub [1, 2, 0] rfl (hk2 _ _ _)
      · refine ts_iload_n C dX8_atSugarRank_48 rfl 2 rfl ?_
        exact ts_ireti C (Nat.zero_le _) (Nat.zero_le _) dX8_atSugarRank_49
    · refine ts_aload_n C dX8_atSugarRank_24 rfl 0 rfl ?_
      refine ts_iload C dX8_atSugarRank_25 4 rfl ?_
      refine ts_iload_n C dX8_atSugarRank_27 rfl 2 rfl ?_
      refine ts_callVi C [ts_v y4, ts_v y2] (mX8_comesBefore hl hb) kX8_comesBefore q_1757 (ts_lt hb 1 (by decide)) (shX8 hb) rfl rfl rfl (Nat.le_of_ble_eq_true rfl) ⟨Nat.le_of_ble_eq_true rfl, Nat.le_of_ble_eq_true rfl⟩ ⟨Nat.le_of_ble_eq_true rfl, Nat.le_of_ble_eq_true rfl⟩ dX8_atSugarRank_28 (fun r6 M5 => ?_)
      refine ts_cm0_eq C rfl 37 dX8_atSugarRank_31 rfl ?_ ?_
      · exact ts_sub [0, 1, 2, 3, 4] rfl (H37 k2 hk2 k15 hk15 _ _ _ _ _)
      · refine ts_iinc C dX8_atSugarRank_34 3 rfl (by decide) (lv' := fun x8 => [(3, ts_v x8), (0, .ref (ts_ad g (b + 1))), (1, ts_v y1), (2, ts_v y2), (4, ts_v y4)]) (fun _ => rfl) (fun x8 => ?_)
        exact ts_sub [1, 2, 3, 0, 4] rfl (H37 k2 hk2 k15 hk15 _ _ _ _ _)
  have H2 : ∀ (n : Nat) (y1 : Int) (y2 : Int) (M : ts_M), ts_lp2 (wX8_atSugarRank_L2 b  Q) n y1 y2 M → ts_V p l e (ts_rm 2 0 0) s m args below meth c g 5 0 0 (MQ below (ts_Q g (ts_Ri Q)) args s 0 0 (ts_A g)) 2 [(0, .ref (ts_ad g (b + 1))), (1, ts_v y1), (2, ts_v y2)] [] M := by
    refine ts_lpr2 (V := fun (y1 : Int) (y2 : Int) (M : ts_M) => ts_V p l e (ts_rm 2 0 0) s m args below meth c g 5 0 0 (MQ below (ts_Q g (ts_Ri Q)) args s 0 0 (ts_A g)) 2 [(0, .ref (ts_ad g (b + 1))), (1, ts_v y1), (2, ts_v y2)] [] M) ?_
    intro k2 hk2 y1 y2 M
    unfold wX8_atSugarRank_L2
    refine ts_iload_n C dX8_atSugarRank_2 rfl 2 rfl ?_
    refine ts_aload_n C dX8_atSugarRank_3 rfl 0 rfl ?_
    refine tgX8_4 hb C q_190 dX8_atSugarRank_4 ?_
    refine ts_cmp_ge C rfl rfl 56 dX8_atSugarRank_7 rfl ?_ ?_
    · refine ts_iconst C dX8_atSugarRank_56 (-1) rfl ?_
      exact ts_ireti C (Nat.zero_le _) (Nat.zero_le _) dX8_atSugarRank_57
    · refine ts_iconst C dX8_atSugarRank_10 0 rfl ?_
      refine ts_istore_n C dX8_atSugarRank_11 rfl (by decide) (lv' := fun x2 => [(3, ts_v x2), (0, .ref (ts_ad g (b + 1))), (1, ts_v y1), (2, ts_v y2)]) (fun _ => rfl) (fun x2 => ?_)
      refine ts_iconst C dX8_atSugarRank_12 0 rfl ?_
      refine ts_istore C dX8_atSugarRank_13 (by decide) (lv' := fun x3 => [(4, ts_v x3), (3, ts_v x2), (0, .ref (ts_ad g (b + 1))), (1, ts_v y1), (2, ts_v y2)]) (fun _ => rfl) (fun x3 => ?_)
      rintro ⟨n, hn⟩
      exact ts_sub [2, 3, 4, 1, 0] rfl (H15 k2 hk2 n _ _ _ _ _) hn
  revert h0
  unfold wX8_atSugarRank
  have hl0 : lv_args 0 [.ref (ts_ad g (b + 1)), ts_v p1] = [(0, .ref (ts_ad g (b + 1))), (1, ts_v p1)] := rfl
  rw [hl0]
  refine ts_iconst C dX8_atSugarRank_0 0 rfl ?_
  refine ts_istore_n C dX8_atSugarRank_1 rfl (by decide) (lv' := fun x1 => [(2, ts_v x1), (0, .ref (ts_ad g (b + 1))), (1, ts_v p1)]) (fun _ => rfl) (fun x1 => ?_)
  rintro ⟨n, hn⟩
  exact ts_sub [1, 2, 0] rfl (H2 n _ _ _) hn
def wX9_settleMain_B35 (b : Nat)  (Q : ts_M → Prop)   (M : ts_M) : Prop :=
  (wX4_remove b (M.1 (b + 9) 2) (fun M1 => Q M1) M)
def wX9_settleMain (b : Nat) (p1 : Int) (Q : ts_M → Prop) (M : ts_M) : Prop :=
  ((ts_w p1 = 0 → wX9_settleMain_B35 b Q M) ∧ (¬ (ts_w p1 = 0) → (wJ9_floorMod_7cf53 (M.1 b 5) 20 (fun r3 M2 => ((0 ≤ ts_w r3 ∧ ts_w r3 < ((20 : Nat) : Int)) ∧ ∀ M4, M4 = ts_si M2 (b + 13) (ts_w r3) (M2.1 (b + 9) 2) → (∀ M5, M5 = ts_si M4 b 5 ((M4.1 b 5) + 1) → wX9_settleMain_B35 b Q M5))) M)))
set_option maxRecDepth 100000 in
set_option maxHeartbeats 4000000 in
theorem mX9_settleMain {l : Launch} {g : ts_W} (hl : l.stackTraces = false) {b : Nat} (hb : ts_isS b) {p1 : Int} {Q : ts_M → Prop} {M : ts_M} : wX9_settleMain b p1 Q M → ts_Con l g yX9_settleMain cX9_settleMain 2 none 2 0 0 [.ref (ts_ad g b), ts_v p1] M (ts_Rv Q) := by
  intro h0
  refine ts_Con.of hl (by decide) (Nat.le_of_ble_eq_true rfl) ?_
  intro p e s m args below meth c C
  have H35 : ∀  (M : ts_M), wX9_settleMain_B35 b  Q  M → ts_V p l e (ts_rm 2 0 0) s m args below meth c g 2 0 0 (MQ below (ts_Q g (ts_Rv Q)) args s 0 0 (ts_A g)) 35 [(0, .ref (ts_ad g b))] [] M := by
    intro   M
    unfold wX9_settleMain_B35
    refine ts_aload_n C dX9_settleMain_35 rfl 0 rfl ?_
    refine tgX9_1 hb C q_292 dX9_settleMain_36 ?_
    refine ts_aload_n C dX9_settleMain_39 rfl 0 rfl ?_
    refine tgX9_2 hb C q_295 dX9_settleMain_40 ?_
    refine tgX10_2 hb C q_251 dX9_settleMain_43 ?_
    refine ts_callVv C [ts_v (M.1 (b + 9) 2)] (mX4_remove hl hb) kX4_remove q_1335 (ts_lt hb 6 (by decide)) (shX4 hb) rfl rfl rfl (Nat.le_of_ble_eq_true rfl) ⟨Nat.le_of_ble_eq_true rfl, Nat.le_of_ble_eq_true rfl⟩ ⟨Nat.le_of_ble_eq_true rfl, Nat.le_of_ble_eq_true rfl⟩ dX9_settleMain_46 (fun M1 => ?_)
    exact ts_vreti C (Nat.zero_le _) (Nat.zero_le _) dX9_settleMain_49
  revert h0
  unfold wX9_settleMain
  have hl0 : lv_args 0 [.ref (ts_ad g b), ts_v p1] = [(0, .ref (ts_ad g b)), (1, ts_v p1)] := rfl
  rw [hl0]
  refine ts_iload_n C dX9_settleMain_0 rfl 1 rfl ?_
  refine ts_cm0_eq C rfl 35 dX9_settleMain_1 rfl ?_ ?_
  · exact ts_sub [0] rfl (H35 _)
  · refine ts_aload_n C dX9_settleMain_4 rfl 0 rfl ?_
    refine tgX9_4 hb C q_299 dX9_settleMain_5 ?_
    refine ts_aload_n C dX9_settleMain_8 rfl 0 rfl ?_
    refine tgX9_5 hb C q_300 dX9_settleMain_9 ?_
    refine ts_bipush C dX9_settleMain_12 20 tb_20 ?_
    refine ts_callSi C [ts_v (M.1 b 5), ts_v 20] (mJ9_floorMod_7cf53 hl) kJ9_floorMod_7cf53 q_1334 rfl rfl (Nat.le_of_ble_eq_true rfl) ⟨Nat.le_of_ble_eq_true rfl, Nat.le_of_ble_eq_true rfl⟩ ⟨Nat.le_of_ble_eq_true rfl, Nat.le_of_ble_eq_true rfl⟩ dX9_settleMain_14 (fun r3 M2 => ?_)
    refine ts_aload_n C dX9_settleMain_17 rfl 0 rfl ?_
    refine tgX9_2 hb C q_295 dX9_settleMain_18 ?_
    refine tgX10_2 hb C q_251 dX9_settleMain_21 ?_
    refine ts_iast C (ts_lt hb 13 (by decide)) (shS13 hb) dX9_settleMain_24 (fun M4 => ?_)
    refine ts_aload_n C dX9_settleMain_25 rfl 0 rfl ?_
    refine ts_dup C dX9_settleMain_26 rfl ?_
    refine tgX9_5 hb C q_300 dX9_settleMain_27 ?_
    refine ts_iconst C dX9_settleMain_30 1 rfl ?_
    refine ts_iadd C dX9_settleMain_31 ?_
    refine tpX9_5 hb C q_300 dX9_settleMain_32 (fun M5 => ?_)
    exact ts_sub [0] rfl (H35 _)
def wX9_endSitting (b : Nat) (Q : ts_M → Prop) (M : ts_M) : Prop :=
  (wX10_clear b (fun M1 => (∀ M2, M2 = ts_si M1 b 6 ((M1.1 b 6) + 1) → Q M2)) M)
set_option maxRecDepth 100000 in
set_option maxHeartbeats 4000000 in
theorem mX9_endSitting {l : Launch} {g : ts_W} (hl : l.stackTraces = false) {b : Nat} (hb : ts_isS b) {Q : ts_M → Prop} {M : ts_M} : wX9_endSitting b Q M → ts_Con l g yX9_endSitting cX9_endSitting 1 none 1 0 0 [.ref (ts_ad g b)] M (ts_Rv Q) := by
  intro h0
  refine ts_Con.of hl (by decide) (Nat.le_of_ble_eq_true rfl) ?_
  intro p e s m args below meth c C
  revert h0
  unfold wX9_endSitting
  have hl0 : lv_args 0 [.ref (ts_ad g b)] = [(0, .ref (ts_ad g b))] := rfl
  rw [hl0]
  refine ts_aload_n C dX9_endSitting_0 rfl 0 rfl ?_
  refine tgX9_2 hb C q_295 dX9_endSitting_1 ?_
  refine ts_callVv C [] (mX10_clear hl hb) kX10_clear q_1347 (ts_lt hb 9 (by decide)) (shX10 hb) rfl rfl rfl (Nat.le_of_ble_eq_true rfl) ⟨Nat.le_of_ble_eq_true rfl, Nat.le_of_ble_eq_true rfl⟩ ⟨Nat.le_of_ble_eq_true rfl, Nat.le_of_ble_eq_true rfl⟩ dX9_endSitting_4 (fun M1 => ?_)
  refine ts_aload_n C dX9_endSitting_7 rfl 0 rfl ?_
  refine ts_dup C dX9_endSitting_8 rfl ?_
  refine tgX9_6 hb C q_302 dX9_endSitting_9 ?_
  refine ts_iconst C dX9_endSitting_12 1 rfl ?_
  refine ts_iadd C dX9_endSitting_13 ?_
  refine tpX9_6 hb C q_302 dX9_endSitting_14 (fun M2 => ?_)
  exact ts_vreti C (Nat.zero_le _) (Nat.zero_le _) dX9_endSitting_17
def wX9_spillTea_B30 (b : Nat)  (Q : Int → ts_M → Prop)   (M : ts_M) : Prop :=
  (wJ13_bitCount_95d88 (M.2.1 (b + 11) 0) (fun r5 M4 => Q r5 M4) M)
def wX9_spillTea (b : Nat) (p1 : Int) (p2 : Int) (p3 : Int) (Q : Int → ts_M → Prop) (M : ts_M) : Prop :=
  (wX1_spread b p1 p2 p3 (fun M1 => (wX1_largestSize b (fun r3 M2 => ((ts_w r3 < 20 → wX9_spillTea_B30 b Q M2) ∧ (¬ (ts_w r3 < 20) → (wX9_endSitting b (fun M6 => (wX9_startAnewIfTableIsEmpty b (fun M7 => wX9_spillTea_B30 b Q M7) M6)) M2)))) M1)) M)
set_option maxRecDepth 100000 in
set_option maxHeartbeats 4000000 in
theorem mX9_spillTea {l : Launch} {g : ts_W} (hl : l.stackTraces = false) {b : Nat} (hb : ts_isS b) {p1 : Int} {p2 : Int} {p3 : Int} {Q : Int → ts_M → Prop} {M : ts_M} : wX9_spillTea b p1 p2 p3 Q M → ts_Con l g yX9_spillTea cX9_spillTea 4 (some .int) 4 0 0 [.ref (ts_ad g b), ts_v p1, ts_v p2, ts_v p3] M (ts_Ri Q) := by
  intro h0
  refine ts_Con.of hl (by decide) (Nat.le_of_ble_eq_true rfl) ?_
  intro p e s m args below meth c C
  have H30 : ∀  (M : ts_M), wX9_spillTea_B30 b  Q  M → ts_V p l e (ts_rm 4 0 0) s m args below meth c g 4 0 0 (MQ below (ts_Q g (ts_Ri Q)) args s 0 0 (ts_A g)) 30 [(0, .ref (ts_ad g b))] [] M := by
    intro   M
    unfold wX9_spillTea_B30
    refine ts_aload_n C dX9_spillTea_30 rfl 0 rfl ?_
    refine tgX9_3 hb C q_297 dX9_spillTea_31 ?_
    refine tgX1_0 hb C q_276 dX9_spillTea_34 ?_
    refine ts_callSi C [.long (M.2.1 (b + 11) 0)] (mJ13_bitCount_95d88 hl) kJ13_bitCount_95d88 q_1384 rfl rfl (Nat.le_of_ble_eq_true rfl) ⟨Nat.le_of_ble_eq_true rfl, Nat.le_of_ble_eq_true rfl⟩ ⟨Nat.le_of_ble_eq_true rfl, Nat.le_of_ble_eq_true rfl⟩ dX9_spillTea_37 (fun r5 M4 => ?_)
    exact ts_ireti C (Nat.zero_le _) (Nat.zero_le _) dX9_spillTea_40
  revert h0
  unfold wX9_spillTea
  have hl0 : lv_args 0 [.ref (ts_ad g b), ts_v p1, ts_v p2, ts_v p3] = [(0, .ref (ts_ad g b)), (1, ts_v p1), (2, ts_v p2), (3, ts_v p3)] := rfl
  rw [hl0]
  refine ts_aload_n C dX9_spillTea_0 rfl 0 rfl ?_
  refine tgX9_3 hb C q_297 dX9_spillTea_1 ?_
  refine ts_iload_n C dX9_spillTea_4 rfl 1 rfl ?_
  refine ts_iload_n C dX9_spillTea_5 rfl 2 rfl ?_
  refine ts_iload_n C dX9_spillTea_6 rfl 3 rfl ?_
  refine ts_callVv C [ts_v p1, ts_v p2, ts_v p3] (mX1_spread hl hb) kX1_spread q_1373 (ts_lt hb 11 (by decide)) (shX1 hb) rfl rfl rfl (Nat.le_of_ble_eq_true rfl) ⟨Nat.le_of_ble_eq_true rfl, Nat.le_of_ble_eq_true rfl⟩ ⟨Nat.le_of_ble_eq_true rfl, Nat.le_of_ble_eq_true rfl⟩ dX9_spillTea_7 (fun M1 => ?_)
  refine ts_aload_n C dX9_spillTea_10 rfl 0 rfl ?_
  refine tgX9_3 hb C q_297 dX9_spillTea_11 ?_
  refine ts_callVi C [] (mX1_largestSize hl hb) kX1_largestSize q_1383 (ts_lt hb 11 (by decide)) (shX1 hb) rfl rfl rfl (Nat.le_of_ble_eq_true rfl) ⟨Nat.le_of_ble_eq_true rfl, Nat.le_of_ble_eq_true rfl⟩ ⟨Nat.le_of_ble_eq_true rfl, Nat.le_of_ble_eq_true rfl⟩ dX9_spillTea_14 (fun r3 M2 => ?_)
  refine ts_bipush C dX9_spillTea_17 20 tb_20 ?_
  refine ts_cmp_lt C rfl tw_20 30 dX9_spillTea_19 rfl ?_ ?_
  · exact ts_sub [0] rfl (H30 _)
  · refine ts_aload_n C dX9_spillTea_22 rfl 0 rfl ?_
    refine ts_callVv C [] (mX9_endSitting hl hb) kX9_endSitting q_1357 (ts_lt0 hb) (shX9 hb) rfl rfl rfl (Nat.le_of_ble_eq_true rfl) ⟨Nat.le_of_ble_eq_true rfl, Nat.le_of_ble_eq_true rfl⟩ ⟨Nat.le_of_ble_eq_true rfl, Nat.le_of_ble_eq_true rfl⟩ dX9_spillTea_23 (fun M6 => ?_)
    refine ts_aload_n C dX9_spillTea_26 rfl 0 rfl ?_
    refine ts_callVv C [] (mX9_startAnewIfTableIsEmpty hl hb) kX9_startAnewIfTableIsEmpty q_1361 (ts_lt0 hb) (shX9 hb) rfl rfl rfl (Nat.le_of_ble_eq_true rfl) ⟨Nat.le_of_ble_eq_true rfl, Nat.le_of_ble_eq_true rfl⟩ ⟨Nat.le_of_ble_eq_true rfl, Nat.le_of_ble_eq_true rfl⟩ dX9_spillTea_27 (fun M7 => ?_)
    exact ts_sub [0] rfl (H30 _)
def wX9_amended (b : Nat) (p1 : Int) (Q : Int → ts_M → Prop) (M : ts_M) : Prop :=
  (wJ9_min_7cf53 99 (p1 + (M.1 (b + 9) 3)) (fun r2 M1 => (wJ9_max_7cf53 0 r2 (fun r4 M3 => Q r4 M3) M1)) M)
set_option maxRecDepth 100000 in
set_option maxHeartbeats 4000000 in
theorem mX9_amended {l : Launch} {g : ts_W} (hl : l.stackTraces = false) {b : Nat} (hb : ts_isS b) {p1 : Int} {Q : Int → ts_M → Prop} {M : ts_M} : wX9_amended b p1 Q M → ts_Con l g yX9_amended cX9_amended 2 (some .int) 1 0 0 [.ref (ts_ad g b), ts_v p1] M (ts_Ri Q) := by
  intro h0
  refine ts_Con.of hl (by decide) (Nat.le_of_ble_eq_true rfl) ?_
  intro p e s m args below meth c C
  revert h0
  unfold wX9_amended
  have hl0 : lv_args 0 [.ref (ts_ad g b), ts_v p1] = [(0, .ref (ts_ad g b)), (1, ts_v p1)] := rfl
  rw [hl0]
  refine ts_iconst C dX9_amended_0 0 rfl ?_
  refine ts_bipush C dX9_amended_1 99 tb_99 ?_
  refine ts_iload_n C dX9_amended_3 rfl 1 rfl ?_
  refine ts_aload_n C dX9_amended_4 rfl 0 rfl ?_
  refine tgX9_2 hb C q_295 dX9_amended_5 ?_
  refine tgX10_3 hb C q_254 dX9_amended_8 ?_
  refine ts_iadd C dX9_amended_11 ?_
  refine ts_callSi C [ts_v 99, ts_v (p1 + (M.1 (b + 9) 3))] (mJ9_min_7cf53 hl) kJ9_min_7cf53 q_1308 rfl rfl (Nat.le_of_ble_eq_true rfl) ⟨Nat.le_of_ble_eq_true rfl, Nat.le_of_ble_eq_true rfl⟩ ⟨Nat.le_of_ble_eq_true rfl, Nat.le_of_ble_eq_true rfl⟩ dX9_amended_12 (fun r2 M1 => ?_)
  refine ts_callSi C [ts_v 0, ts_v r2] (mJ9_max_7cf53 hl) kJ9_max_7cf53 q_1309 rfl rfl (Nat.le_of_ble_eq_true rfl) ⟨Nat.le_of_ble_eq_true rfl, Nat.le_of_ble_eq_true rfl⟩ ⟨Nat.le_of_ble_eq_true rfl, Nat.le_of_ble_eq_true rfl⟩ dX9_amended_15 (fun r4 M3 => ?_)
  exact ts_ireti C (Nat.zero_le _) (Nat.zero_le _) dX9_amended_18
def wX9_isEnough_B48 (b : Nat)  (Q : Int → ts_M → Prop)  (z0 : Int) (M : ts_M) : Prop :=
  ((ts_w z0 = 0 ∨ ts_w z0 = 1) ∧ Q z0 M)
def wX9_isEnough (b : Nat) (p1 : Int) (Q : Int → ts_M → Prop) (M : ts_M) : Prop :=
  (wX8_weightSum b (fun r2 M1 => (∀ x3 : Int, x3 = r2 → (wX10_topRank b (fun r5 M4 => ((¬ (ts_w r5 = 3) → ((ts_w (2 * p1) ≤ ts_w x3 → wX9_isEnough_B48 b Q 0 M4) ∧ (¬ (ts_w (2 * p1) ≤ ts_w x3) → wX9_isEnough_B48 b Q 1 M4))) ∧ (ts_w r5 = 3 → ((ts_w (3 * p1) < ts_w (2 * x3) → wX9_isEnough_B48 b Q 0 M4) ∧ (¬ (ts_w (3 * p1) < ts_w (2 * x3)) → wX9_isEnough_B48 b Q 1 M4))))) M1))) M)
set_option maxRecDepth 100000 in
set_option maxHeartbeats 4000000 in
theorem mX9_isEnough {l : Launch} {g : ts_W} (hl : l.stackTraces = false) {b : Nat} (hb : ts_isS b) {p1 : Int} {Q : Int → ts_M → Prop} {M : ts_M} : wX9_isEnough b p1 Q M → ts_Con l g yX9_isEnough cX9_isEnough 3 (some .boolean) 2 0 0 [.ref (ts_ad g b), ts_v p1] M (ts_Ri Q) := by
  intro h0
  refine ts_Con.of hl (by decide) (Nat.le_of_ble_eq_true rfl) ?_
  intro p e s m args below meth c C
  have H48 : ∀ (z0 : Int) (M : ts_M), wX9_isEnough_B48 b  Q z0 M → ts_V p l e (ts_rm 2 0 0) s m args below meth c g 3 0 0 (MQ below (ts_Q g (ts_Ri Q)) args s 0 0 (ts_A g)) 48 [] [ts_v z0] M := by
    intro  z0 M
    unfold wX9_isEnough_B48
    exact ts_zreti C (Nat.zero_le _) (Nat.zero_le _) dX9_isEnough_48
  revert h0
  unfold wX9_isEnough
  have hl0 : lv_args 0 [.ref (ts_ad g b), ts_v p1] = [(0, .ref (ts_ad g b)), (1, ts_v p1)] := rfl
  rw [hl0]
  refine ts_aload_n C dX9_isEnough_0 rfl 0 rfl ?_
  refine tgX9_0 hb C q_289 dX9_isEnough_1 ?_
  refine ts_callVi C [] (mX8_weightSum hl hb) kX8_weightSum q_1314 (ts_lt hb 1 (by decide)) (shX8 hb) rfl rfl rfl (Nat.le_of_ble_eq_true rfl) ⟨Nat.le_of_ble_eq_true rfl, Nat.le_of_ble_eq_true rfl⟩ ⟨Nat.le_of_ble_eq_true rfl, Nat.le_of_ble_eq_true rfl⟩ dX9_isEnough_4 (fun r2 M1 => ?_)
  refine ts_istore_n C dX9_isEnough_7 rfl (by decide) (lv' := fun x3 => [(2, ts_v x3), (0, .ref (ts_ad g b)), (1, ts_v p1)]) (fun _ => rfl) (fun x3 => ?_)
  refine ts_aload_n C dX9_isEnough_8 rfl 1 rfl ?_
  refine tgX9_2 hb C q_295 dX9_isEnough_9 ?_
  refine ts_callVi C [] (mX10_topRank hl hb) kX10_topRank q_1285 (ts_lt hb 9 (by decide)) (shX10 hb) rfl rfl rfl (Nat.le_of_ble_eq_true rfl) ⟨Nat.le_of_ble_eq_true rfl, Nat.le_of_ble_eq_true rfl⟩ ⟨Nat.le_of_ble_eq_true rfl, Nat.le_of_ble_eq_true rfl⟩ dX9_isEnough_12 (fun r5 M4 => ?_)
  refine ts_iconst C dX9_isEnough_15 3 rfl ?_
  refine ts_cmp_ne C rfl tw_3 36 dX9_isEnough_16 rfl ?_ ?_
  · refine ts_iconst C dX9_isEnough_36 2 rfl ?_
    refine ts_iload_n C dX9_isEnough_37 rfl 2 rfl ?_
    refine ts_imul C dX9_isEnough_38 ?_
    refine ts_iload_n C dX9_isEnough_39 rfl 0 rfl ?_
    refine ts_cmp_le C rfl rfl 47 dX9_isEnough_40 rfl ?_ ?_
    · refine ts_iconst C dX9_isEnough_47 0 rfl ?_
      exact ts_sub [] rfl (H48 _ _)
    · refine ts_iconst C dX9_isEnough_43 1 rfl ?_
      refine ts_goto C 48 dX9_isEnough_44 rfl ?_
      exact ts_sub [] rfl (H48 _ _)
  · refine ts_iconst C dX9_isEnough_19 3 rfl ?_
    refine ts_iload_n C dX9_isEnough_20 rfl 2 rfl ?_
    refine ts_imul C dX9_isEnough_21 ?_
    refine ts_iconst C dX9_isEnough_22 2 rfl ?_
    refine ts_iload_n C dX9_isEnough_23 rfl 0 rfl ?_
    refine ts_imul C dX9_isEnough_24 ?_
    refine ts_cmp_lt C rfl rfl 32 dX9_isEnough_25 rfl ?_ ?_
    · refine ts_iconst C dX9_isEnough_32 0 rfl ?_
      refine ts_goto C 48 dX9_isEnough_33 rfl ?_
      exact ts_sub [] rfl (H48 _ _)
    · refine ts_iconst C dX9_isEnough_28 1 rfl ?_
      refine ts_goto C 48 dX9_isEnough_29 rfl ?_
      exact ts_sub [] rfl (H48 _ _)
def wX9_saysYes_B79 (b : Nat)  (Q : Int → ts_M → Prop)  (z0 : Int) (M : ts_M) : Prop :=
  ((ts_w z0 = 0 ∨ ts_w z0 = 1) ∧ Q z0 M)
def wX9_saysYes_B107 (b : Nat)  (Q : Int → ts_M → Prop)  (z0 : Int) (M : ts_M) : Prop :=
  ((ts_w z0 = 0 ∨ ts_w z0 = 1) ∧ Q z0 M)
def wX9_saysYes_B119 (b : Nat)  (Q : Int → ts_M → Prop)  (z0 : Int) (M : ts_M) : Prop :=
  ((ts_w z0 = 0 ∨ ts_w z0 = 1) ∧ Q z0 M)
def wX9_saysYes_B137 (b : Nat)  (Q : Int → ts_M → Prop)  (z0 : Int) (M : ts_M) : Prop :=
  ((ts_w z0 = 0 ∨ ts_w z0 = 1) ∧ Q z0 M)
def wX9_saysYes_B156 (b : Nat)  (Q : Int → ts_M → Prop)  (z0 : Int) (M : ts_M) : Prop :=
  ((ts_w z0 = 0 ∨ ts_w z0 = 1) ∧ Q z0 M)
def wX9_saysYes (b : Nat) (p1 : Int) (p2 : Int) (Q : Int → ts_M → Prop) (M : ts_M) : Prop :=
  (wX8_has b p1 (fun r2 M1 => ((¬ (ts_w r2 = 0) → ((0 ≤ ts_w p1 ∧ ts_w p1 < ((8 : Nat) : Int)) ∧ (wJ9_abs_0f7a4 (p2 - (M1.1 (b + 3) (ts_w p1))) (fun r4 M3 => (∀ x5 : Int, x5 = r4 → (wX10_topRank b (fun r7 M6 => ((ts_w r7 = 0 → ((25 < ts_w x5 → wX9_saysYes_B79 b Q 0 M6) ∧ (¬ (25 < ts_w x5) → wX9_saysYes_B79 b Q 1 M6))) ∧ (¬ (ts_w r7 = 0) → ((ts_w r7 = 1 → (wX9_amended b p2 (fun r9 M8 => ((0 ≤ ts_w p1 ∧ ts_w p1 < ((8 : Nat) : Int)) ∧ (wJ9_abs_0f7a4 (r9 - (M8.1 (b + 3) (ts_w p1))) (fun r11 M10 => ((ts_w x5 ≤ ts_w r11 → wX9_saysYes_B107 b Q 0 M10) ∧ (¬ (ts_w x5 ≤ ts_w r11) → wX9_saysYes_B107 b Q 1 M10))) M8))) M6)) ∧ (¬ (ts_w r7 = 1) → ((ts_w r7 = 2 → ((ts_w x5 ≤ 25 → wX9_saysYes_B119 b Q 0 M6) ∧ (¬ (ts_w x5 ≤ 25) → wX9_saysYes_B119 b Q 1 M6))) ∧ (¬ (ts_w r7 = 2) → ((ts_w r7 = 3 → ((0 ≤ ts_w p1 ∧ ts_w p1 < ((8 : Nat) : Int)) ∧ ((ts_w (M6.1 (b + 5) (ts_w p1)) ≤ 0 → wX9_saysYes_B137 b Q 0 M6) ∧ (¬ (ts_w (M6.1 (b + 5) (ts_w p1)) ≤ 0) → wX9_saysYes_B137 b Q 1 M6)))) ∧ (¬ (ts_w r7 = 3) → ((ts_w r7 = 4 → ((0 ≤ ts_w p1 ∧ ts_w p1 < ((8 : Nat) : Int)) ∧ ((3 ≤ ts_w (M6.1 (b + 4) (ts_w p1)) → wX9_saysYes_B156 b Q 0 M6) ∧ (¬ (3 ≤ ts_w (M6.1 (b + 4) (ts_w p1))) → wX9_saysYes_B156 b Q 1 M6)))) ∧ (¬ (ts_w r7 = 4) → Q 0 M6))))))))))) M3))) M1))) ∧ (ts_w r2 = 0 → Q 0 M1))) M)
set_option maxRecDepth 100000 in
set_option maxHeartbeats 4000000 in
theorem mX9_saysYes {l : Launch} {g : ts_W} (hl : l.stackTraces = false) {b : Nat} (hb : ts_isS b) {p1 : Int} {p2 : Int} {Q : Int → ts_M → Prop} {M : ts_M} : wX9_saysYes b p1 p2 Q M → ts_Con l g yX9_saysYes cX9_saysYes 4 (some .boolean) 2 0 0 [.ref (ts_ad g b), ts_v p1, ts_v p2] M (ts_Ri Q) := by
  intro h0
  refine ts_Con.of hl (by decide) (Nat.le_of_ble_eq_true rfl) ?_
  intro p e s m args below meth c C
  have H79 : ∀ (z0 : Int) (M : ts_M), wX9_saysYes_B79 b  Q z0 M → ts_V p l e (ts_rm 2 0 0) s m args below meth c g 4 0 0 (MQ below (ts_Q g (ts_Ri Q)) args s 0 0 (ts_A g)) 79 [] [ts_v z0] M := by
    intro  z0 M
    unfold wX9_saysYes_B79
    exact ts_zreti C (Nat.zero_le _) (Nat.zero_le _) dX9_saysYes_79
  have H107 : ∀ (z0 : Int) (M : ts_M), wX9_saysYes_B107 b  Q z0 M → ts_V p l e (ts_rm 2 0 0) s m args below meth c g 4 0 0 (MQ below (ts_Q g (ts_Ri Q)) args s 0 0 (ts_A g)) 107 [] [ts_v z0] M := by
    intro  z0 M
    unfold wX9_saysYes_B107
    exact ts_zreti C (Nat.zero_le _) (Nat.zero_le _) dX9_saysYes_107
  have H119 : ∀ (z0 : Int) (M : ts_M), wX9_saysYes_B119 b  Q z0 M → ts_V p l e (ts_rm 2 0 0) s m args below meth c g 4 0 0 (MQ below (ts_Q g (ts_Ri Q)) args s 0 0 (ts_A g)) 119 [] [ts_v z0] M := by
    intro  z0 M
    unfold wX9_saysYes_B119
    exact ts_zreti C (Nat.zero_le _) (Nat.zero_le _) dX9_saysYes_119
  have H137 : ∀ (z0 : Int) (M : ts_M), wX9_saysYes_B137 b  Q z0 M → ts_V p l e (ts_rm 2 0 0) s m args below meth c g 4 0 0 (MQ below (ts_Q g (ts_Ri Q)) args s 0 0 (ts_A g)) 137 [] [ts_v z0] M := by
    intro  z0 M
    unfold wX9_saysYes_B137
    exact ts_zreti C (Nat.zero_le _) (Nat.zero_le _) dX9_saysYes_137
  have H156 : ∀ (z0 : Int) (M : ts_M), wX9_saysYes_B156 b  Q z0 M → ts_V p l e (ts_rm 2 0 0) s m args below meth c g 4 0 0 (MQ below (ts_Q g (ts_Ri Q)) args s 0 0 (ts_A g)) 156 [] [ts_v z0] M := by
    intro  z0 M
    unfold wX9_saysYes_B156
    exact ts_zreti C (Nat.zero_le _) (Nat.zero_le _) dX9_saysYes_156
  revert h0
  unfold wX9_saysYes
  have hl0 : lv_args 0 [.ref (ts_ad g b), ts_v p1, ts_v p2] = [(0, .ref (ts_ad g b)), (1, ts_v p1), (2, ts_v p2)] := rfl
  rw [hl0]
  refine ts_aload_n C dX9_saysYes_0 rfl 0 rfl ?_
  refine tgX9_0 hb C q_289 dX9_saysYes_1 ?_
  refine ts_iload_n C dX9_saysYes_4 rfl 1 rfl ?_
  refine ts_callVi C [ts_v p1] (mX8_has hl hb) kX8_has q_1152 (ts_lt hb 1 (by decide)) (shX8 hb) rfl rfl rfl (Nat.le_of_ble_eq_true rfl) ⟨Nat.le_of_ble_eq_true rfl, Nat.le_of_ble_eq_true rfl⟩ ⟨Nat.le_of_ble_eq_true rfl, Nat.le_of_ble_eq_true rfl⟩ dX9_saysYes_5 (fun r2 M1 => ?_)
  refine ts_cm0_ne C rfl 13 dX9_saysYes_8 rfl ?_ ?_
  · refine ts_iload_n C dX9_saysYes_13 rfl 2 rfl ?_
    refine ts_aload_n C dX9_saysYes_14 rfl 0 rfl ?_
    refine tgX9_0 hb C q_289 dX9_saysYes_15 ?_
    refine tgX8_1 hb C q_183 dX9_saysYes_18 ?_
    refine ts_iload_n C dX9_saysYes_21 rfl 1 rfl ?_
    refine ts_iald C (ts_lt hb 3 (by decide)) (shS3 hb) dX9_saysYes_22 ?_
    refine ts_isub C dX9_saysYes_23 ?_
    refine ts_callSi C [ts_v (p2 - (M1.1 (b + 3) (ts_w p1)))] (mJ9_abs_0f7a4 hl) kJ9_abs_0f7a4 q_1303 rfl rfl (Nat.le_of_ble_eq_true rfl) ⟨Nat.le_of_ble_eq_true rfl, Nat.le_of_ble_eq_true rfl⟩ ⟨Nat.le_of_ble_eq_true rfl, Nat.le_of_ble_eq_true rfl⟩ dX9_saysYes_24 (fun r4 M3 => ?_)
    refine ts_istore_n C dX9_saysYes_27 rfl (by decide) (lv' := fun x5 => [(3, ts_v x5), (0, .ref (ts_ad g b)), (1, ts_v p1), (2, ts_v p2)]) (fun _ => rfl) (fun x5 => ?_)
    refine ts_aload_n C dX9_saysYes_28 rfl 1 rfl ?_
    refine tgX9_2 hb C q_295 dX9_saysYes_29 ?_
    refine ts_callVi C [] (mX10_topRank hl hb) kX10_topRank q_1285 (ts_lt hb 9 (by decide)) (shX10 hb) rfl rfl rfl (Nat.le_of_ble_eq_true rfl) ⟨Nat.le_of_ble_eq_true rfl, Nat.le_of_ble_eq_true rfl⟩ ⟨Nat.le_of_ble_eq_true rfl, Nat.le_of_ble_eq_true rfl⟩ dX9_saysYes_32 (fun r7 M6 => ?_)
    refine ts_case rfl 0 (fun e0 => ?_) (fun e0 => ?_)
    · refine ts_tabIn C 0 e0 68 dX9_saysYes_35 (by decide) (by decide) rfl rfl ?_
      refine ts_iload_n C dX9_saysYes_68 rfl 0 rfl ?_
      refine ts_bipush C dX9_saysYes_69 25 tb_25 ?_
      refine ts_cmp_gt C rfl tw_25 78 dX9_saysYes_71 rfl ?_ ?_
      · refine ts_iconst C dX9_saysYes_78 0 rfl ?_
        exact ts_sub [] rfl (H79 _ _)
      · refine ts_iconst C dX9_saysYes_74 1 rfl ?_
        refine ts_goto C 79 dX9_saysYes_75 rfl ?_
        exact ts_sub [] rfl (H79 _ _)
    · refine ts_case rfl 1 (fun e1 => ?_) (fun e1 => ?_)
      · refine ts_tabIn C 1 e1 80 dX9_saysYes_35 (by decide) (by decide) rfl rfl ?_
        refine ts_aload_n C dX9_saysYes_80 rfl 1 rfl ?_
        refine ts_iload_n C dX9_saysYes_81 rfl 3 rfl ?_
        refine ts_callVi C [ts_v p2] (mX9_amended hl hb) kX9_amended q_1304 (ts_lt0 hb) (shX9 hb) rfl rfl rfl (Nat.le_of_ble_eq_true rfl) ⟨Nat.le_of_ble_eq_true rfl, Nat.le_of_ble_eq_true rfl⟩ ⟨Nat.le_of_ble_eq_true rfl, Nat.le_of_ble_eq_true rfl⟩ dX9_saysYes_82 (fun r9 M8 => ?_)
        refine ts_aload_n C dX9_saysYes_85 rfl 1 rfl ?_
        refine tgX9_0 hb C q_289 dX9_saysYes_86 ?_
        refine tgX8_1 hb C q_183 dX9_saysYes_89 ?_
        refine ts_iload_n C dX9_saysYes_92 rfl 2 rfl ?_
        refine ts_iald C (ts_lt hb 3 (by decide)) (shS3 hb) dX9_saysYes_93 ?_
        refine ts_isub C dX9_saysYes_94 ?_
        refine ts_callSi C [ts_v (r9 - (M8.1 (b + 3) (ts_w p1)))] (mJ9_abs_0f7a4 hl) kJ9_abs_0f7a4 q_1303 rfl rfl (Nat.le_of_ble_eq_true rfl) ⟨Nat.le_of_ble_eq_true rfl, Nat.le_of_ble_eq_true rfl⟩ ⟨Nat.le_of_ble_eq_true rfl, Nat.le_of_ble_eq_true rfl⟩ dX9_saysYes_95 (fun r11 M10 => ?_)
        refine ts_iload_n C dX9_saysYes_98 rfl 0 rfl ?_
        refine ts_cmp_ge C rfl rfl 106 dX9_saysYes_99 rfl ?_ ?_
        · refine ts_iconst C dX9_saysYes_106 0 rfl ?_
          exact ts_sub [] rfl (H107 _ _)
        · refine ts_iconst C dX9_saysYes_102 1 rfl ?_
          refine ts_goto C 107 dX9_saysYes_103 rfl ?_
          exact ts_sub [] rfl (H107 _ _)
      · refine ts_case rfl 2 (fun e2 => ?_) (fun e2 => ?_)
        · refine ts_tabIn C 2 e2 108 dX9_saysYes_35 (by decide) (by decide) rfl rfl ?_
          refine ts_iload_n C dX9_saysYes_108 rfl 0 rfl ?_
          refine ts_bipush C dX9_saysYes_109 25 tb_25 ?_
          refine ts_cmp_le C rfl tw_25 118 dX9_saysYes_111 rfl ?_ ?_
          · refine ts_iconst C dX9_saysYes_118 0 rfl ?_
            exact ts_sub [] rfl (H119 _ _)
          · refine ts_iconst C dX9_saysYes_114 1 rfl ?_
            refine ts_goto C 119 dX9_saysYes_115 rfl ?_
            exact ts_sub [] rfl (H119 _ _)
        · refine ts_case rfl 3 (fun e3 => ?_) (fun e3 => ?_)
          · refine ts_tabIn C 3 e3 120 dX9_saysYes_35 (by decide) (by decide) rfl rfl ?_
            refine ts_aload_n C dX9_saysYes_120 rfl 1 rfl ?_
            refine tgX9_0 hb C q_289 dX9_saysYes_121 ?_
            refine tgX8_3 hb C q_188 dX9_saysYes_124 ?_
            refine ts_iload_n C dX9_saysYes_127 rfl 2 rfl ?_
            refine ts_iald C (ts_lt hb 5 (by decide)) (shS5 hb) dX9_saysYes_128 ?_
            refine ts_cm0_le C rfl 136 dX9_saysYes_129 rfl ?_ ?_
            · refine ts_iconst C dX9_saysYes_136 0 rfl ?_
              exact ts_sub [] rfl (H137 _ _)
            · refine ts_iconst C dX9_saysYes_132 1 rfl ?_
              refine ts_goto C 137 dX9_saysYes_133 rfl ?_
              exact ts_sub [] rfl (H137 _ _)
          · refine ts_case rfl 4 (fun e4 => ?_) (fun e4 => ?_)
            · refine ts_tabIn C 4 e4 138 dX9_saysYes_35 (by decide) (by decide) rfl rfl ?_
              refine ts_aload_n C dX9_saysYes_138 rfl 1 rfl ?_
              refine tgX9_0 hb C q_289 dX9_saysYes_139 ?_
              refine tgX8_2 hb C q_185 dX9_saysYes_142 ?_
              refine ts_iload_n C dX9_saysYes_145 rfl 2 rfl ?_
              refine ts_iald C (ts_lt hb 4 (by decide)) (shS4 hb) dX9_saysYes_146 ?_
              refine ts_iconst C dX9_saysYes_147 3 rfl ?_
              refine ts_cmp_ge C rfl tw_3 155 dX9_saysYes_148 rfl ?_ ?_
              · refine ts_iconst C dX9_saysYes_155 0 rfl ?_
                exact ts_sub [] rfl (H156 _ _)
              · refine ts_iconst C dX9_saysYes_151 1 rfl ?_
                refine ts_goto C 156 dX9_saysYes_152 rfl ?_
                exact ts_sub [] rfl (H156 _ _)
            · refine ts_tabOut C 157 dX9_saysYes_35 (by omega) rfl ?_
              refine ts_iconst C dX9_saysYes_157 0 rfl ?_
              exact ts_zretci C (by decide) (Nat.zero_le _) (Nat.zero_le _) dX9_saysYes_158
  · refine ts_iconst C dX9_saysYes_11 0 rfl ?_
    exact ts_zretci C (by decide) (Nat.zero_le _) (Nat.zero_le _) dX9_saysYes_12
def wX9_minuteAt (b : Nat) (p1 : Int) (Q : Int → ts_M → Prop) (M : ts_M) : Prop :=
  (wJ9_floorMod_7cf53 p1 20 (fun r2 M1 => ((0 ≤ ts_w r2 ∧ ts_w r2 < ((20 : Nat) : Int)) ∧ Q (M1.1 (b + 13) (ts_w r2)) M1)) M)
set_option maxRecDepth 100000 in
set_option maxHeartbeats 4000000 in
theorem mX9_minuteAt {l : Launch} {g : ts_W} (hl : l.stackTraces = false) {b : Nat} (hb : ts_isS b) {p1 : Int} {Q : Int → ts_M → Prop} {M : ts_M} : wX9_minuteAt b p1 Q M → ts_Con l g yX9_minuteAt cX9_minuteAt 2 (some .int) 1 0 0 [.ref (ts_ad g b), ts_v p1] M (ts_Ri Q) := by
  intro h0
  refine ts_Con.of hl (by decide) (Nat.le_of_ble_eq_true rfl) ?_
  intro p e s m args below meth c C
  revert h0
  unfold wX9_minuteAt
  have hl0 : lv_args 0 [.ref (ts_ad g b), ts_v p1] = [(0, .ref (ts_ad g b)), (1, ts_v p1)] := rfl
  rw [hl0]
  refine ts_aload_n C dX9_minuteAt_0 rfl 0 rfl ?_
  refine tgX9_4 hb C q_299 dX9_minuteAt_1 ?_
  refine ts_iload_n C dX9_minuteAt_4 rfl 1 rfl ?_
  refine ts_bipush C dX9_minuteAt_5 20 tb_20 ?_
  refine ts_callSi C [ts_v p1, ts_v 20] (mJ9_floorMod_7cf53 hl) kJ9_floorMod_7cf53 q_1334 rfl rfl (Nat.le_of_ble_eq_true rfl) ⟨Nat.le_of_ble_eq_true rfl, Nat.le_of_ble_eq_true rfl⟩ ⟨Nat.le_of_ble_eq_true rfl, Nat.le_of_ble_eq_true rfl⟩ dX9_minuteAt_7 (fun r2 M1 => ?_)
  refine ts_iald C (ts_lt hb 13 (by decide)) (shS13 hb) dX9_minuteAt_10 ?_
  exact ts_ireti C (Nat.zero_le _) (Nat.zero_le _) dX9_minuteAt_11
def wX11_largestPuddle (Q : Int → ts_M → Prop) (M : ts_M) : Prop :=
  (wX1_largestSize 0 (fun r2 M1 => Q r2 M1) M)
set_option maxRecDepth 100000 in
set_option maxHeartbeats 4000000 in
theorem mX11_largestPuddle {l : Launch} {g : ts_W} (hl : l.stackTraces = false) {Q : Int → ts_M → Prop} {M : ts_M} : wX11_largestPuddle Q M → ts_Con l g yX11_largestPuddle cX11_largestPuddle 1 (some .int) 3 0 0 [.ref (ts_ad g 154)] M (ts_Ri Q) := by
  intro h0
  refine ts_Con.of hl (by decide) (Nat.le_of_ble_eq_true rfl) ?_
  intro p e s m args below meth c C
  revert h0
  unfold wX11_largestPuddle
  have hl0 : lv_args 0 [.ref (ts_ad g 154)] = [(0, .ref (ts_ad g 154))] := rfl
  rw [hl0]
  refine ts_aload_n C dX11_largestPuddle_0 rfl 0 rfl ?_
  refine tgX11_0 C q_428 dX11_largestPuddle_1 ?_
  refine tgX9_3 ts_iS0 C q_298 dX11_largestPuddle_4 ?_
  refine ts_callVi C [] (mX1_largestSize hl ts_iS0) kX1_largestSize q_541 (ts_lt ts_iS0 11 (by decide)) (shX1 ts_iS0) rfl rfl rfl (Nat.le_of_ble_eq_true rfl) ⟨Nat.le_of_ble_eq_true rfl, Nat.le_of_ble_eq_true rfl⟩ ⟨Nat.le_of_ble_eq_true rfl, Nat.le_of_ble_eq_true rfl⟩ dX11_largestPuddle_7 (fun r2 M1 => ?_)
  exact ts_ireti C (Nat.zero_le _) (Nat.zero_le _) dX11_largestPuddle_10
def wX11_sugarTotal (Q : Int → ts_M → Prop) (M : ts_M) : Prop :=
  (wX8_countedLumps 0 (fun r2 M1 => Q r2 M1) M)
set_option maxRecDepth 100000 in
set_option maxHeartbeats 4000000 in
theorem mX11_sugarTotal {l : Launch} {g : ts_W} (hl : l.stackTraces = false) {Q : Int → ts_M → Prop} {M : ts_M} : wX11_sugarTotal Q M → ts_Con l g yX11_sugarTotal cX11_sugarTotal 1 (some .int) 2 0 0 [.ref (ts_ad g 154)] M (ts_Ri Q) := by
  intro h0
  refine ts_Con.of hl (by decide) (Nat.le_of_ble_eq_true rfl) ?_
  intro p e s m args below meth c C
  revert h0
  unfold wX11_sugarTotal
  have hl0 : lv_args 0 [.ref (ts_ad g 154)] = [(0, .ref (ts_ad g 154))] := rfl
  rw [hl0]
  refine ts_aload_n C dX11_sugarTotal_0 rfl 0 rfl ?_
  refine tgX11_0 C q_428 dX11_sugarTotal_1 ?_
  refine tgX9_0 ts_iS0 C q_291 dX11_sugarTotal_4 ?_
  refine ts_callVi C [] (mX8_countedLumps hl ts_iS0) kX8_countedLumps q_582 (ts_lt ts_iS0 1 (by decide)) (shX8 ts_iS0) rfl rfl rfl (Nat.le_of_ble_eq_true rfl) ⟨Nat.le_of_ble_eq_true rfl, Nat.le_of_ble_eq_true rfl⟩ ⟨Nat.le_of_ble_eq_true rfl, Nat.le_of_ble_eq_true rfl⟩ dX11_sugarTotal_7 (fun r2 M1 => ?_)
  exact ts_ireti C (Nat.zero_le _) (Nat.zero_le _) dX11_sugarTotal_10
def wX5_survey_L31 (b : Nat) (k20 : Int → ts_M → Prop) (Q : ts_M → Prop) (k31 : Int → Int → ts_M → Prop) (y3 : Int) (y4 : Int) (M : ts_M) : Prop :=
  ((ts_w (M.1 155 2) ≤ ts_w y4 → (∀ x6 : Int, x6 = y3 + 1 → k20 x6 M)) ∧ (¬ (ts_w (M.1 155 2) ≤ ts_w y4) → ((0 ≤ ts_w y3 ∧ ts_w y3 < ((6 : Nat) : Int)) ∧ ((0 ≤ ts_w y4 ∧ ts_w y4 < ((6 : Nat) : Int)) ∧ (wX8_preferring b (M.1 (b + 8) (ts_w y3)) (M.1 (b + 8) (ts_w y4)) (fun r8 M7 => ((0 ≤ ts_w ((y3 * 6) + y4) ∧ ts_w ((y3 * 6) + y4) < ((36 : Nat) : Int)) ∧ ∀ M9, M9 = ts_si M7 156 (ts_w ((y3 * 6) + y4)) r8 → (∀ x10 : Int, x10 = y4 + 1 → k31 y3 x10 M9))) M)))))
def wX5_survey_L20 (b : Nat)  (Q : ts_M → Prop) (k20 : Int → ts_M → Prop) (y3 : Int) (M : ts_M) : Prop :=
  ((ts_w (M.1 155 2) ≤ ts_w y3 → Q M) ∧ (¬ (ts_w (M.1 155 2) ≤ ts_w y3) → (∀ x5 : Int, x5 = 0 → ∃ n, ts_lp2 (wX5_survey_L31 b k20 Q) n y3 x5 M)))
def wX5_survey (b : Nat) (Q : ts_M → Prop) (M : ts_M) : Prop :=
  (wJ9_min_7cf53 (M.1 (b + 6) 2) 6 (fun r2 M1 => (∀ M3, M3 = ts_si M1 155 2 r2 → (∀ x4 : Int, x4 = 0 → ∃ n, ts_lp1 (wX5_survey_L20 b Q) n x4 M3))) M)
set_option maxRecDepth 100000 in
set_option maxHeartbeats 4000000 in
theorem mX5_survey {l : Launch} {g : ts_W} (hl : l.stackTraces = false) {b : Nat} (hb : ts_isS b) {Q : ts_M → Prop} {M : ts_M} : wX5_survey b Q M → ts_Con l g yX5_survey cX5_survey 5 none 2 0 0 [.ref (ts_ad g 155), .ref (ts_ad g b)] M (ts_Rv Q) := by
  intro h0
  refine ts_Con.of hl (by decide) (Nat.le_of_ble_eq_true rfl) ?_
  intro p e s m args below meth c C
  have H31 : ∀ (k20 : Int → ts_M → Prop) (hk20 : ∀ (y3 : Int) (M : ts_M), k20 y3 M → ts_V p l e (ts_rm 2 0 0) s m args below meth c g 5 0 0 (MQ below (ts_Q g (ts_Rv Q)) args s 0 0 (ts_A g)) 20 [(0, .ref (ts_ad g 155)), (1, .ref (ts_ad g b)), (2, .ref (ts_ad g (b + 6))), (3, ts_v y3)] [] M) (n : Nat) (y3 : Int) (y4 : Int) (M : ts_M), ts_lp2 (wX5_survey_L31 b k20 Q) n y3 y4 M → ts_V p l e (ts_rm 2 0 0) s m args below meth c g 5 0 0 (MQ below (ts_Q g (ts_Rv Q)) args s 0 0 (ts_A g)) 31 [(0, .ref (ts_ad g 155)), (1, .ref (ts_ad g b)), (2, .ref (ts_ad g (b + 6))), (3, ts_v y3), (4, ts_v y4)] [] M := by
    intro k20 hk20
    refine ts_lpr2 (V := fun (y3 : Int) (y4 : Int) (M : ts_M) => ts_V p l e (ts_rm 2 0 0) s m args below meth c g 5 0 0 (MQ below (ts_Q g (ts_Rv Q)) args s 0 0 (ts_A g)) 31 [(0, .ref (ts_ad g 155)), (1, .ref (ts_ad g b)), (2, .ref (ts_ad g (b + 6))), (3, ts_v y3), (4, ts_v y4)] [] M) ?_
    intro k31 hk31 y3 y4 M
    unfold wX5_survey_L31
    refine ts_iload C dX5_survey_31 4 rfl ?_
    refine ts_aload_n C dX5_survey_33 rfl 0 rfl ?_
    refine tgX5_2 C q_355 dX5_survey_34 ?_
    refine ts_cmp_ge C rfl rfl 78 dX5_survey_37 rfl ?_ ?_
    · refine ts_iinc C dX5_survey_78 3 rfl (by decide) (lv' := fun x6 => [(3, ts_v x6), (0, .ref (ts_ad g 155)), (1, .ref (ts_ad g b)), (2, .ref (ts_ad g (b + 6))), (4, ts_v y4)]) (fun _ => rfl) (fun x6 => ?_)
      refine ts_goto C 20 dX5_survey_81 rfl ?_
      exact ts_sub [1, 2, 3, 0] rfl (hk20 _ _)
    · refine ts_aload_n C dX5_survey_40 rfl 0 rfl ?_
      refine tgX5_0 C q_353 dX5_survey_41 ?_
      refine ts_iload_n C dX5_survey_44 rfl 3 rfl ?_
      refine ts_bipush C dX5_survey_45 6 tb_6 ?_
      refine ts_imul C dX5_survey_47 ?_
      refine ts_iload C dX5_survey_48 4 rfl ?_
      refine ts_iadd C dX5_survey_50 ?_
      refine ts_aload_n C dX5_survey_51 rfl 1 rfl ?_
      refine tgX9_0 hb C q_290 dX5_survey_52 ?_
      refine ts_aload_n C dX5_survey_55 rfl 2 rfl ?_
      refine tgX4_1 hb C q_224 dX5_survey_56 ?_
      refine ts_iload_n C dX5_survey_59 rfl 3 rfl ?_
      refine ts_iald C (ts_lt hb 8 (by decide)) (shS8 hb) dX5_survey_60 ?_
      refine ts_aload_n C dX5_survey_61 rfl 2 rfl ?_
      refine tgX4_1 hb C q_224 dX5_survey_62 ?_
      refine ts_iload C dX5_survey_65 4 rfl ?_
      refine ts_iald C (ts_lt hb 8 (by decide)) (shS8 hb) dX5_survey_67 ?_
      refine ts_callVi C [ts_v (M.1 (b + 8) (ts_w y3)), ts_v (M.1 (b + 8) (ts_w y4))] (mX8_preferring hl hb) kX8_preferring q_486 (ts_lt hb 1 (by decide)) (shX8 hb) rfl rfl rfl (Nat.le_of_ble_eq_true rfl) ⟨Nat.le_of_ble_eq_true rfl, Nat.le_of_ble_eq_true rfl⟩ ⟨Nat.le_of_ble_eq_true rfl, Nat.le_of_ble_eq_true rfl⟩ dX5_survey_68 (fun r8 M7 => ?_)
      refine ts_iast C (by decide) shG156 dX5_survey_71 (fun M9 => ?_)
      refine ts_iinc C dX5_survey_72 4 rfl (by decide) (lv' := fun x10 => [(4, ts_v x10), (0, .ref (ts_ad g 155)), (1, .ref (ts_ad g b)), (2, .ref (ts_ad g (b + 6))), (3, ts_v y3)]) (fun _ => rfl) (fun x10 => ?_)
      refine ts_goto C 31 dX5_survey_75 rfl ?_
      exact ts_sub [1, 2, 3, 4, 0] rfl (hk31 _ _ _)
  have H20 : ∀ (n : Nat) (y3 : Int) (M : ts_M), ts_lp1 (wX5_survey_L20 b  Q) n y3 M → ts_V p l e (ts_rm 2 0 0) s m args below meth c g 5 0 0 (MQ below (ts_Q g (ts_Rv Q)) args s 0 0 (ts_A g)) 20 [(0, .ref (ts_ad g 155)), (1, .ref (ts_ad g b)), (2, .ref (ts_ad g (b + 6))), (3, ts_v y3)] [] M := by
    refine ts_lpr1 (V := fun (y3 : Int) (M : ts_M) => ts_V p l e (ts_rm 2 0 0) s m args below meth c g 5 0 0 (MQ below (ts_Q g (ts_Rv Q)) args s 0 0 (ts_A g)) 20 [(0, .ref (ts_ad g 155)), (1, .ref (ts_ad g b)), (2, .ref (ts_ad g (b + 6))), (3, ts_v y3)] [] M) ?_
    intro k20 hk20 y3 M
    unfold wX5_survey_L20
    refine ts_iload_n C dX5_survey_20 rfl 3 rfl ?_
    refine ts_aload_n C dX5_survey_21 rfl 0 rfl ?_
    refine tgX5_2 C q_355 dX5_survey_22 ?_
    refine ts_cmp_ge C rfl rfl 84 dX5_survey_25 rfl ?_ ?_
    · exact ts_vreti C (Nat.zero_le _) (Nat.zero_le _) dX5_survey_84
    · refine ts_iconst C dX5_survey_28 0 rfl ?_
      refine ts_istore C dX5_survey_29 (by decide) (lv' := fun x5 => [(4, ts_v x5), (0, .ref (ts_ad g 155)), (1, .ref (ts_ad g b)), (2, .ref (ts_ad g (b + 6))), (3, ts_v y3)]) (fun _ => rfl) (fun x5 => ?_)
      rintro ⟨n, hn⟩
      exact ts_sub [1, 2, 3, 4, 0] rfl (H31 k20 hk20 n _ _ _) hn
  revert h0
  unfold wX5_survey
  have hl0 : lv_args 0 [.ref (ts_ad g 155), .ref (ts_ad g b)] = [(0, .ref (ts_ad g 155)), (1, .ref (ts_ad g b))] := rfl
  rw [hl0]
  refine ts_aload_n C dX5_survey_0 rfl 1 rfl ?_
  refine tgX9_1 hb C q_293 dX5_survey_1 ?_
  refine ts_astore_n C dX5_survey_4 rfl (by decide) (lv' := [(2, .ref (ts_ad g (b + 6))), (0, .ref (ts_ad g 155)), (1, .ref (ts_ad g b))]) rfl ?_
  refine ts_aload_n C dX5_survey_5 rfl 1 rfl ?_
  refine ts_aload_n C dX5_survey_6 rfl 0 rfl ?_
  refine tgX4_2 hb C q_227 dX5_survey_7 ?_
  refine ts_bipush C dX5_survey_10 6 tb_6 ?_
  refine ts_callSi C [ts_v (M.1 (b + 6) 2), ts_v 6] (mJ9_min_7cf53 hl) kJ9_min_7cf53 q_483 rfl rfl (Nat.le_of_ble_eq_true rfl) ⟨Nat.le_of_ble_eq_true rfl, Nat.le_of_ble_eq_true rfl⟩ ⟨Nat.le_of_ble_eq_true rfl, Nat.le_of_ble_eq_true rfl⟩ dX5_survey_12 (fun r2 M1 => ?_)
  refine tpX5_2 C q_355 dX5_survey_15 (fun M3 => ?_)
  refine ts_iconst C dX5_survey_18 0 rfl ?_
  refine ts_istore_n C dX5_survey_19 rfl (by decide) (lv' := fun x4 => [(3, ts_v x4), (2, .ref (ts_ad g (b + 6))), (0, .ref (ts_ad g 155)), (1, .ref (ts_ad g b))]) (fun _ => rfl) (fun x4 => ?_)
  rintro ⟨n, hn⟩
  exact ts_sub [2, 3, 1, 0] rfl (H20 n _ _) hn
def wX5_fewestByTable_B44   (Q : Int → ts_M → Prop)   (M : ts_M) : Prop :=
  (wX5_allPlaces  (fun r5 M4 => ((0 ≤ ts_w r5 ∧ ts_w r5 < ((64 : Nat) : Int)) ∧ Q (M4.1 157 (ts_w r5)) M4)) M)
def wX5_fewestByTable_B37  (k2 : Int → ts_M → Prop) (Q : Int → ts_M → Prop)  (y1 : Int) (z0 : Int) (z1 : Int) (M : ts_M) : Prop :=
  ((0 ≤ ts_w z1 ∧ ts_w z1 < ((64 : Nat) : Int)) ∧ ∀ M8, M8 = ts_si M 157 (ts_w z1) z0 → (∀ x9 : Int, x9 = y1 + 1 → k2 x9 M8))
def wX5_fewestByTable_L2   (Q : Int → ts_M → Prop) (k2 : Int → ts_M → Prop) (y1 : Int) (M : ts_M) : Prop :=
  (wX5_allPlaces  (fun r3 M2 => ((ts_w r3 < ts_w y1 → wX5_fewestByTable_B44 Q M2) ∧ (¬ (ts_w r3 < ts_w y1) → ((ts_w ((64 : Nat) : Int) ≤ ts_w y1 → wX5_fewestByTable_B44 Q M2) ∧ (¬ (ts_w ((64 : Nat) : Int) ≤ ts_w y1) → ((¬ (ts_w y1 = 0) → (wX5_fewestOf y1 (fun r7 M6 => wX5_fewestByTable_B37 k2 Q y1 r7 y1 M6) M2)) ∧ (ts_w y1 = 0 → wX5_fewestByTable_B37 k2 Q y1 0 y1 M2))))))) M)
def wX5_fewestByTable (Q : Int → ts_M → Prop) (M : ts_M) : Prop :=
  (∀ x1 : Int, x1 = 0 → ∃ n, ts_lp1 (wX5_fewestByTable_L2 Q) n x1 M)
set_option maxRecDepth 100000 in
set_option maxHeartbeats 4000000 in
theorem mX5_fewestByTable {l : Launch} {g : ts_W} (hl : l.stackTraces = false) {Q : Int → ts_M → Prop} {M : ts_M} : wX5_fewestByTable Q M → ts_Con l g yX5_fewestByTable cX5_fewestByTable 2 (some .int) 4 0 0 [.ref (ts_ad g 155)] M (ts_Ri Q) := by
  intro h0
  refine ts_Con.of hl (by decide) (Nat.le_of_ble_eq_true rfl) ?_
  intro p e s m args below meth c C
  have H44 : ∀  (M : ts_M), wX5_fewestByTable_B44   Q  M → ts_V p l e (ts_rm 4 0 0) s m args below meth c g 2 0 0 (MQ below (ts_Q g (ts_Ri Q)) args s 0 0 (ts_A g)) 44 [(0, .ref (ts_ad g 155))] [] M := by
    intro   M
    unfold wX5_fewestByTable_B44
    refine ts_aload_n C dX5_fewestByTable_44 rfl 0 rfl ?_
    refine tgX5_1 C q_354 dX5_fewestByTable_45 ?_
    refine ts_aload_n C dX5_fewestByTable_48 rfl 0 rfl ?_
    refine ts_callVi C [] (mX5_allPlaces hl) kX5_allPlaces q_497 (by decide) shX5 rfl rfl rfl (Nat.le_of_ble_eq_true rfl) ⟨Nat.le_of_ble_eq_true rfl, Nat.le_of_ble_eq_true rfl⟩ ⟨Nat.le_of_ble_eq_true rfl, Nat.le_of_ble_eq_true rfl⟩ dX5_fewestByTable_49 (fun r5 M4 => ?_)
    refine ts_iald C (by decide) shG157 dX5_fewestByTable_52 ?_
    exact ts_ireti C (Nat.zero_le _) (Nat.zero_le _) dX5_fewestByTable_53
  have H37 : ∀ (k2 : Int → ts_M → Prop) (hk2 : ∀ (y1 : Int) (M : ts_M), k2 y1 M → ts_V p l e (ts_rm 4 0 0) s m args below meth c g 2 0 0 (MQ below (ts_Q g (ts_Ri Q)) args s 0 0 (ts_A g)) 2 [(0, .ref (ts_ad g 155)), (1, ts_v y1)] [] M) (y1 : Int) (z0 : Int) (z1 : Int) (M : ts_M), wX5_fewestByTable_B37  k2 Q y1 z0 z1 M → ts_V p l e (ts_rm 4 0 0) s m args below meth c g 2 0 0 (MQ below (ts_Q g (ts_Ri Q)) args s 0 0 (ts_A g)) 37 [(0, .ref (ts_ad g 155)), (1, ts_v y1)] [ts_v z0, ts_v z1, .ref (ts_ad g 157)] M := by
    intro k2 hk2 y1 z0 z1 M
    unfold wX5_fewestByTable_B37
    refine ts_iast C (by decide) shG157 dX5_fewestByTable_37 (fun M8 => ?_)
    refine ts_iinc C dX5_fewestByTable_38 1 rfl (by decide) (lv' := fun x9 => [(1, ts_v x9), (0, .ref (ts_ad g 155))]) (fun _ => rfl) (fun x9 => ?_)
    refine ts_goto C 2 dX5_fewestByTable_41 rfl ?_
    exact ts_sub [1, 0] rfl (hk2 _ _)
  have H2 : ∀ (n : Nat) (y1 : Int) (M : ts_M), ts_lp1 (wX5_fewestByTable_L2   Q) n y1 M → ts_V p l e (ts_rm 4 0 0) s m args below meth c g 2 0 0 (MQ below (ts_Q g (ts_Ri Q)) args s 0 0 (ts_A g)) 2 [(0, .ref (ts_ad g 155)), (1, ts_v y1)] [] M := by
    refine ts_lpr1 (V := fun (y1 : Int) (M : ts_M) => ts_V p l e (ts_rm 4 0 0) s m args below meth c g 2 0 0 (MQ below (ts_Q g (ts_Ri Q)) args s 0 0 (ts_A g)) 2 [(0, .ref (ts_ad g 155)), (1, ts_v y1)] [] M) ?_
    intro k2 hk2 y1 M
    unfold wX5_fewestByTable_L2
    refine ts_iload_n C dX5_fewestByTable_2 rfl 1 rfl ?_
    refine ts_aload_n C dX5_fewestByTable_3 rfl 0 rfl ?_
    refine ts_callVi C [] (mX5_allPlaces hl) kX5_allPlaces q_497 (by decide) shX5 rfl rfl rfl (Nat.le_of_ble_eq_true rfl) ⟨Nat.le_of_ble_eq_true rfl, Nat.le_of_ble_eq_true rfl⟩ ⟨Nat.le_of_ble_eq_true rfl, Nat.le_of_ble_eq_true rfl⟩ dX5_fewestByTable_4 (fun r3 M2 => ?_)
    refine ts_cmp_gt C rfl rfl 44 dX5_fewestByTable_7 rfl ?_ ?_
    · exact ts_sub [0] rfl (H44 _)
    · refine ts_iload_n C dX5_fewestByTable_10 rfl 1 rfl ?_
      refine ts_aload_n C dX5_fewestByTable_11 rfl 0 rfl ?_
      refine tgX5_1 C q_354 dX5_fewestByTable_12 ?_
      refine ts_alenI C (by decide) shG157 dX5_fewestByTable_15 ?_
      refine ts_cmp_ge C rfl rfl 44 dX5_fewestByTable_16 rfl ?_ ?_
      · exact ts_sub [0] rfl (H44 _)
      · refine ts_aload_n C dX5_fewestByTable_19 rfl 0 rfl ?_
        refine tgX5_1 C q_354 dX5_fewestByTable_20 ?_
        refine ts_iload_n C dX5_fewestByTable_23 rfl 1 rfl ?_
        refine ts_iload_n C dX5_fewestByTable_24 rfl 1 rfl ?_
        refine ts_cm0_ne C rfl 32 dX5_fewestByTable_25 rfl ?_ ?_
        · refine ts_aload_n C dX5_fewestByTable_32 rfl 0 rfl ?_
          refine ts_iload_n C dX5_fewestByTable_33 rfl 1 rfl ?_
          refine ts_callVi C [ts_v y1] (mX5_fewestOf hl) kX5_fewestOf q_501 (by decide) shX5 rfl rfl rfl (Nat.le_of_ble_eq_true rfl) ⟨Nat.le_of_ble_eq_true rfl, Nat.le_of_ble_eq_true rfl⟩ ⟨Nat.le_of_ble_eq_true rfl, Nat.le_of_ble_eq_true rfl⟩ dX5_fewestByTable_34 (fun r7 M6 => ?_)
          exact ts_sub [0, 1] rfl (H37 k2 hk2 _ _ _ _)
        · refine ts_iconst C dX5_fewestByTable_28 0 rfl ?_
          refine ts_goto C 37 dX5_fewestByTable_29 rfl ?_
          exact ts_sub [0, 1] rfl (H37 k2 hk2 _ _ _ _)
  revert h0
  unfold wX5_fewestByTable
  have hl0 : lv_args 0 [.ref (ts_ad g 155)] = [(0, .ref (ts_ad g 155))] := rfl
  rw [hl0]
  refine ts_iconst C dX5_fewestByTable_0 0 rfl ?_
  refine ts_istore_n C dX5_fewestByTable_1 rfl (by decide) (lv' := fun x1 => [(1, ts_v x1), (0, .ref (ts_ad g 155))]) (fun _ => rfl) (fun x1 => ?_)
  rintro ⟨n, hn⟩
  exact ts_sub [1, 0] rfl (H2 n _ _) hn
def wX5_idInBestOrder_B71 (b : Nat)  (Q : Int → ts_M → Prop)  (y4 : Int) (M : ts_M) : Prop :=
  Q y4 M
def wX5_idInBestOrder_L16 (b : Nat)  (Q : Int → ts_M → Prop) (k16 : Int → Int → Int → Int → ts_M → Prop) (y1 : Int) (y3 : Int) (y4 : Int) (y5 : Int) (M : ts_M) : Prop :=
  ((ts_w y1 < ts_w y5 → wX5_idInBestOrder_B71 b Q y4 M) ∧ (¬ (ts_w y1 < ts_w y5) → ((ts_w (M.1 155 2) ≤ ts_w y5 → wX5_idInBestOrder_B71 b Q y4 M) ∧ (¬ (ts_w (M.1 155 2) ≤ ts_w y5) → (wX5_bestFirst b y3 (fun r9 M8 => (∀ x10 : Int, x10 = r9 → ((¬ (ts_w x10 = (-1)) → ((0 ≤ ts_w x10 ∧ ts_w x10 < ((6 : Nat) : Int)) ∧ (∀ x11 : Int, x11 = M8.1 (b + 7) (ts_w x10) → (∀ x12 : Int, x12 = ts_and y3 (ts_xor (ts_shl 1 x10) (-1)) → (∀ x13 : Int, x13 = y5 + 1 → k16 y1 x12 x11 x13 M8))))) ∧ (ts_w x10 = (-1) → Q (-1) M8)))) M)))))
def wX5_idInBestOrder (b : Nat) (p1 : Int) (Q : Int → ts_M → Prop) (M : ts_M) : Prop :=
  (wX5_fewestByTable  (fun r2 M1 => (wX5_allPlaces  (fun r4 M3 => (∀ x5 : Int, x5 = r4 → (∀ x6 : Int, x6 = (-1) → (∀ x7 : Int, x7 = 0 → ∃ n, ts_lp4 (wX5_idInBestOrder_L16 b Q) n p1 x5 x6 x7 M3)))) M1)) M)
set_option maxRecDepth 100000 in
set_option maxHeartbeats 4000000 in
theorem mX5_idInBestOrder {l : Launch} {g : ts_W} (hl : l.stackTraces = false) {b : Nat} (hb : ts_isS b) {p1 : Int} {Q : Int → ts_M → Prop} {M : ts_M} : wX5_idInBestOrder b p1 Q M → ts_Con l g yX5_idInBestOrder cX5_idInBestOrder 7 (some .int) 5 0 0 [.ref (ts_ad g 155), ts_v p1, .ref (ts_ad g (b + 6))] M (ts_Ri Q) := by
  intro h0
  refine ts_Con.of hl (by decide) (Nat.le_of_ble_eq_true rfl) ?_
  intro p e s m args below meth c C
  have H71 : ∀ (y4 : Int) (M : ts_M), wX5_idInBestOrder_B71 b  Q y4 M → ts_V p l e (ts_rm 5 0 0) s m args below meth c g 7 0 0 (MQ below (ts_Q g (ts_Ri Q)) args s 0 0 (ts_A g)) 71 [(4, ts_v y4)] [] M := by
    intro  y4 M
    unfold wX5_idInBestOrder_B71
    refine ts_iload C dX5_idInBestOrder_71 0 rfl ?_
    exact ts_ireti C (Nat.zero_le _) (Nat.zero_le _) dX5_idInBestOrder_73
  have H16 : ∀ (n : Nat) (y1 : Int) (y3 : Int) (y4 : Int) (y5 : Int) (M : ts_M), ts_lp4 (wX5_idInBestOrder_L16 b  Q) n y1 y3 y4 y5 M → ts_V p l e (ts_rm 5 0 0) s m args below meth c g 7 0 0 (MQ below (ts_Q g (ts_Ri Q)) args s 0 0 (ts_A g)) 16 [(0, .ref (ts_ad g 155)), (1, ts_v y1), (2, .ref (ts_ad g (b + 6))), (3, ts_v y3), (4, ts_v y4), (5, ts_v y5)] [] M := by
    refine ts_lpr4 (V := fun (y1 : Int) (y3 : Int) (y4 : Int) (y5 : Int) (M : ts_M) => ts_V p l e (ts_rm 5 0 0) s m args below meth c g 7 0 0 (MQ below (ts_Q g (ts_Ri Q)) args s 0 0 (ts_A g)) 16 [(0, .ref (ts_ad g 155)), (1, ts_v y1), (2, .ref (ts_ad g (b + 6))), (3, ts_v y3), (4, ts_v y4), (5, ts_v y5)] [] M) ?_
    intro k16 hk16 y1 y3 y4 y5 M
    unfold wX5_idInBestOrder_L16
    refine ts_iload C dX5_idInBestOrder_16 5 rfl ?_
    refine ts_iload_n C dX5_idInBestOrder_18 rfl 1 rfl ?_
    refine ts_cmp_gt C rfl rfl 71 dX5_idInBestOrder_19 rfl ?_ ?_
    · exact ts_sub [4] rfl (H71 _ _)
    · refine ts_iload C dX5_idInBestOrder_22 5 rfl ?_
      refine ts_aload_n C dX5_idInBestOrder_24 rfl 0 rfl ?_
      refine tgX5_2 C q_355 dX5_idInBestOrder_25 ?_
      refine ts_cmp_ge C rfl rfl 71 dX5_idInBestOrder_28 rfl ?_ ?_
      · exact ts_sub [4] rfl (H71 _ _)
      · refine ts_aload_n C dX5_idInBestOrder_31 rfl 0 rfl ?_
        refine ts_iload_n C dX5_idInBestOrder_32 rfl 3 rfl ?_
        refine ts_aload_n C dX5_idInBestOrder_33 rfl 2 rfl ?_
        refine ts_callVi C [ts_v y3, .ref (ts_ad g (b + 6))] (mX5_bestFirst hl hb) kX5_bestFirst q_1692 (by decide) shX5 rfl rfl rfl (Nat.le_of_ble_eq_true rfl) ⟨Nat.le_of_ble_eq_true rfl, Nat.le_of_ble_eq_true rfl⟩ ⟨Nat.le_of_ble_eq_true rfl, Nat.le_of_ble_eq_true rfl⟩ dX5_idInBestOrder_34 (fun r9 M8 => ?_)
        refine ts_istore C dX5_idInBestOrder_37 (by decide) (lv' := fun x10 => [(6, ts_v x10), (0, .ref (ts_ad g 155)), (1, ts_v y1), (2, .ref (ts_ad g (b + 6))), (3, ts_v y3), (4, ts_v y4), (5, ts_v y5)]) (fun _ => rfl) (fun x10 => ?_)
        refine ts_iload C dX5_idInBestOrder_39 0 rfl ?_
        refine ts_iconst C dX5_idInBestOrder_41 (-1) rfl ?_
        refine ts_cmp_ne C rfl tw_m1 47 dX5_idInBestOrder_42 rfl ?_ ?_
        · refine ts_aload_n C dX5_idInBestOrder_47 rfl 3 rfl ?_
          refine tgX4_0 hb C q_221 dX5_idInBestOrder_48 ?_
          refine ts_iload C dX5_idInBestOrder_51 0 rfl ?_
          refine ts_iald C (ts_lt hb 7 (by decide)) (shS7 hb) dX5_idInBestOrder_53 ?_
          refine ts_istore C dX5_idInBestOrder_54 (by decide) (lv' := fun x11 => [(4, ts_v x11), (6, ts_v x10), (0, .ref (ts_ad g 155)), (1, ts_v y1), (2, .ref (ts_ad g (b + 6))), (3, ts_v y3), (5, ts_v y5)]) (fun _ => rfl) (fun x11 => ?_)
          refine ts_iload_n C dX5_idInBestOrder_56 rfl 5 rfl ?_
          refine ts_iconst C dX5_idInBestOrder_57 1 rfl ?_
          refine ts_iload C dX5_idInBestOrder_58 1 rfl ?_
          refine ts_ishl C dX5_idInBestOrder_60 ?_
          refine ts_iconst C dX5_idInBestOrder_61 (-1) rfl ?_
          refine ts_ixor C dX5_idInBestOrder_62 ?_
          refine ts_iand C dX5_idInBestOrder_63 ?_
          refine ts_istore_n C dX5_idInBestOrder_64 rfl (by decide) (lv' := fun x12 => [(3, ts_v x12), (4, ts_v x11), (6, ts_v x10), (0, .ref (ts_ad g 155)), (1, ts_v y1), (2, .ref (ts_ad g (b + 6))), (5, ts_v y5)]) (fun _ => rfl) (fun x12 => ?_)
          refine ts_iinc C dX5_idInBestOrder_65 6 rfl (by decide) (lv' := fun x13 => [(5, ts_v x13), (3, ts_v x12), (4, ts_v x11), (6, ts_v x10), (0, .ref (ts_ad g 155)), (1, ts_v y1), (2, .ref (ts_ad g (b + 6)))]) (fun _ => rfl) (fun x13 => ?_)
          refine ts_goto C 16 dX5_idInBestOrder_68 rfl ?_
          exact ts_sub [4, 5, 6, 1, 2, 0] rfl (hk16 _ _ _ _ _)
        · refine ts_iconst C dX5_idInBestOrder_45 (-1) rfl ?_
          exact ts_ireti C (Nat.zero_le _) (Nat.zero_le _) dX5_idInBestOrder_46
  revert h0
  unfold wX5_idInBestOrder
  have hl0 : lv_args 0 [.ref (ts_ad g 155), ts_v p1, .ref (ts_ad g (b + 6))] = [(0, .ref (ts_ad g 155)), (1, ts_v p1), (2, .ref (ts_ad g (b + 6)))] := rfl
  rw [hl0]
  refine ts_aload_n C dX5_idInBestOrder_0 rfl 0 rfl ?_
  refine ts_callVi C [] (mX5_fewestByTable hl) kX5_fewestByTable q_1691 (by decide) shX5 rfl rfl rfl (Nat.le_of_ble_eq_true rfl) ⟨Nat.le_of_ble_eq_true rfl, Nat.le_of_ble_eq_true rfl⟩ ⟨Nat.le_of_ble_eq_true rfl, Nat.le_of_ble_eq_true rfl⟩ dX5_idInBestOrder_1 (fun r2 M1 => ?_)
  refine ts_pop C dX5_idInBestOrder_4 rfl ?_
  refine ts_aload_n C dX5_idInBestOrder_5 rfl 0 rfl ?_
  refine ts_callVi C [] (mX5_allPlaces hl) kX5_allPlaces q_497 (by decide) shX5 rfl rfl rfl (Nat.le_of_ble_eq_true rfl) ⟨Nat.le_of_ble_eq_true rfl, Nat.le_of_ble_eq_true rfl⟩ ⟨Nat.le_of_ble_eq_true rfl, Nat.le_of_ble_eq_true rfl⟩ dX5_idInBestOrder_6 (fun r4 M3 => ?_)
  refine ts_istore_n C dX5_idInBestOrder_9 rfl (by decide) (lv' := fun x5 => [(3, ts_v x5), (0, .ref (ts_ad g 155)), (1, ts_v p1), (2, .ref (ts_ad g (b + 6)))]) (fun _ => rfl) (fun x5 => ?_)
  refine ts_iconst C dX5_idInBestOrder_10 (-1) rfl ?_
  refine ts_istore C dX5_idInBestOrder_11 (by decide) (lv' := fun x6 => [(4, ts_v x6), (3, ts_v x5), (0, .ref (ts_ad g 155)), (1, ts_v p1), (2, .ref (ts_ad g (b + 6)))]) (fun _ => rfl) (fun x6 => ?_)
  refine ts_iconst C dX5_idInBestOrder_13 0 rfl ?_
  refine ts_istore C dX5_idInBestOrder_14 (by decide) (lv' := fun x7 => [(5, ts_v x7), (4, ts_v x6), (3, ts_v x5), (0, .ref (ts_ad g 155)), (1, ts_v p1), (2, .ref (ts_ad g (b + 6)))]) (fun _ => rfl) (fun x7 => ?_)
  rintro ⟨n, hn⟩
  exact ts_sub [3, 4, 5, 2, 1, 0] rfl (H16 n _ _ _ _ _) hn
