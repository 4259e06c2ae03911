def wJ5_length_8abf5 (Q : Int → ts_M → Prop) (M : ts_M) : Prop :=
  Q (M.1 177 0) M
set_option maxRecDepth 100000 in
set_option maxHeartbeats 4000000 in
theorem mJ5_length_8abf5 {l : Launch} {g : ts_W} (hl : l.stackTraces = false) {Q : Int → ts_M → Prop} {M : ts_M} : wJ5_length_8abf5 Q M → ts_Con l g yJ5_length_8abf5 cJ5_length_8abf5 1 (some .int) 0 0 0 [.ref (ts_ad g 177)] M (ts_Ri Q) := by
  intro h0
  refine ts_Con.of hl (by decide) (Nat.le_of_ble_eq_true rfl) ?_
  intro p e s m args below meth c C
  revert h0
  unfold wJ5_length_8abf5
  have hl0 : lv_args 0 [.ref (ts_ad g 177)] = [(0, .ref (ts_ad g 177))] := rfl
  rw [hl0]
  refine ts_aload_n C dJ5_length_8abf5_0 rfl 0 rfl ?_
  refine ts_sbgn C q_417 dJ5_length_8abf5_1 ?_
  exact ts_ireti C (Nat.zero_le _) (Nat.zero_le _) dJ5_length_8abf5_4
def wJ5_isLatin1_aae02_B18   (Q : Int → ts_M → Prop)  (z0 : Int) (M : ts_M) : Prop :=
  ((ts_w z0 = 0 ∨ ts_w z0 = 1) ∧ Q z0 M)
def wJ5_isLatin1_aae02_B17   (Q : Int → ts_M → Prop)   (M : ts_M) : Prop :=
  wJ5_isLatin1_aae02_B18 Q 0 M
def wJ5_isLatin1_aae02 (Q : Int → ts_M → Prop) (M : ts_M) : Prop :=
  (((1 : Int) = 0 → wJ5_isLatin1_aae02_B17 Q M) ∧ (¬ ((1 : Int) = 0) → ((¬ ((0 : Int) = 0) → wJ5_isLatin1_aae02_B17 Q M) ∧ ((0 : Int) = 0 → wJ5_isLatin1_aae02_B18 Q 1 M))))
set_option maxRecDepth 100000 in
set_option maxHeartbeats 4000000 in
theorem mJ5_isLatin1_aae02 {l : Launch} {g : ts_W} (hl : l.stackTraces = false) {Q : Int → ts_M → Prop} {M : ts_M} : wJ5_isLatin1_aae02 Q M → ts_Con l g yJ5_isLatin1_aae02 cJ5_isLatin1_aae02 1 (some .boolean) 0 0 0 [.ref (ts_ad g 177)] M (ts_Ri Q) := by
  intro h0
  refine ts_Con.of hl (by decide) (Nat.le_of_ble_eq_true rfl) ?_
  intro p e s m args below meth c C
  have H18 : ∀ (z0 : Int) (M : ts_M), wJ5_isLatin1_aae02_B18   Q z0 M → ts_V p l e (ts_rm 0 0 0) s m args below meth c g 1 0 0 (MQ below (ts_Q g (ts_Ri Q)) args s 0 0 (ts_A g)) 18 [] [ts_v z0] M := by
    intro  z0 M
    unfold wJ5_isLatin1_aae02_B18
    exact ts_zreti C (Nat.zero_le _) (Nat.zero_le _) dJ5_isLatin1_aae02_18
  have H17 : ∀  (M : ts_M), wJ5_isLatin1_aae02_B17   Q  M → ts_V p l e (ts_rm 0 0 0) s m args below meth c g 1 0 0 (MQ below (ts_Q g (ts_Ri Q)) args s 0 0 (ts_A g)) 17 [] [] M := by
    intro   M
    unfold wJ5_isLatin1_aae02_B17
    refine ts_iconst C dJ5_isLatin1_aae02_17 0 rfl ?_
    exact ts_sub [] rfl (H18 _ _)
  revert h0
  unfold wJ5_isLatin1_aae02
  have hl0 : lv_args 0 [.ref (ts_ad g 177)] = [(0, .ref (ts_ad g 177))] := rfl
  rw [hl0]
  refine ts_getCS C q_404 dJ5_isLatin1_aae02_0 ?_
  refine ts_cm0_eq C tw_1 17 dJ5_isLatin1_aae02_3 rfl ?_ ?_
  · exact ts_sub [] rfl (H17 _)
  · refine ts_aload_n C dJ5_isLatin1_aae02_6 rfl 0 rfl ?_
    refine ts_sbgc C q_414 dJ5_isLatin1_aae02_7 ?_
    refine ts_cm0_ne C tw_0 17 dJ5_isLatin1_aae02_10 rfl ?_ ?_
    · exact ts_sub [] rfl (H17 _)
    · refine ts_iconst C dJ5_isLatin1_aae02_13 1 rfl ?_
      refine ts_goto C 18 dJ5_isLatin1_aae02_14 rfl ?_
      exact ts_sub [] rfl (H18 _ _)
def wJ1_canEncode_fc78d_B12   (Q : Int → ts_M → Prop)  (z0 : Int) (M : ts_M) : Prop :=
  ((ts_w z0 = 0 ∨ ts_w z0 = 1) ∧ Q z0 M)
def wJ1_canEncode_fc78d (p1 : Int) (Q : Int → ts_M → Prop) (M : ts_M) : Prop :=
  ((255 < ts_w p1 → wJ1_canEncode_fc78d_B12 Q 0 M) ∧ (¬ (255 < ts_w p1) → wJ1_canEncode_fc78d_B12 Q 1 M))
set_option maxRecDepth 100000 in
set_option maxHeartbeats 4000000 in
theorem mJ1_canEncode_fc78d {l : Launch} {g : ts_W} (hl : l.stackTraces = false) {p1 : Int} {Q : Int → ts_M → Prop} {M : ts_M} : wJ1_canEncode_fc78d p1 Q M → ts_Con l g yJ1_canEncode_fc78d cJ1_canEncode_fc78d 1 (some .boolean) 0 0 0 [ts_v p1] M (ts_Ri Q) := by
  intro h0
  refine ts_Con.of hl (by decide) (Nat.le_of_ble_eq_true rfl) ?_
  intro p e s m args below meth c C
  have H12 : ∀ (z0 : Int) (M : ts_M), wJ1_canEncode_fc78d_B12   Q z0 M → ts_V p l e (ts_rm 0 0 0) s m args below meth c g 1 0 0 (MQ below (ts_Q g (ts_Ri Q)) args s 0 0 (ts_A g)) 12 [] [ts_v z0] M := by
    intro  z0 M
    unfold wJ1_canEncode_fc78d_B12
    exact ts_zreti C (Nat.zero_le _) (Nat.zero_le _) dJ1_canEncode_fc78d_12
  revert h0
  unfold wJ1_canEncode_fc78d
  have hl0 : lv_args 0 [ts_v p1] = [(0, ts_v p1)] := rfl
  rw [hl0]
  refine ts_iload_n C dJ1_canEncode_fc78d_0 rfl 0 rfl ?_
  refine ts_sipush C dJ1_canEncode_fc78d_1 255 tsp_255 ?_
  refine ts_cmp_gt C rfl tw_255 11 dJ1_canEncode_fc78d_4 rfl ?_ ?_
  · refine ts_iconst C dJ1_canEncode_fc78d_11 0 rfl ?_
    exact ts_sub [] rfl (H12 _ _)
  · refine ts_iconst C dJ1_canEncode_fc78d_7 1 rfl ?_
    refine ts_goto C 12 dJ1_canEncode_fc78d_8 rfl ?_
    exact ts_sub [] rfl (H12 _ _)
def wJ6_stringSize_0f7a4_L16   (Q : Int → ts_M → Prop) (k16 : Int → Int → Int → Int → ts_M → Prop) (y0 : Int) (y1 : Int) (y2 : Int) (y3 : Int) (M : ts_M) : Prop :=
  ((10 ≤ ts_w y3 → Q (10 + y1) M) ∧ (¬ (10 ≤ ts_w y3) → ((ts_w y0 ≤ ts_w y2 → (∀ x4 : Int, x4 = 10 * y2 → (∀ x5 : Int, x5 = y3 + 1 → k16 y0 y1 x4 x5 M))) ∧ (¬ (ts_w y0 ≤ ts_w y2) → Q (y3 + y1) M))))
def wJ6_stringSize_0f7a4_B11   (Q : Int → ts_M → Prop)  (y0 : Int) (y1 : Int) (M : ts_M) : Prop :=
  (∀ x2 : Int, x2 = (-10) → (∀ x3 : Int, x3 = 1 → ∃ n, ts_lp4 (wJ6_stringSize_0f7a4_L16 Q) n y0 y1 x2 x3 M))
def wJ6_stringSize_0f7a4 (p1 : Int) (Q : Int → ts_M → Prop) (M : ts_M) : Prop :=
  (∀ x1 : Int, x1 = 1 → ((ts_w p1 < 0 → wJ6_stringSize_0f7a4_B11 Q p1 x1 M) ∧ (¬ (ts_w p1 < 0) → (∀ x6 : Int, x6 = 0 → (∀ x7 : Int, x7 = -p1 → wJ6_stringSize_0f7a4_B11 Q x7 x6 M)))))
set_option maxRecDepth 100000 in
set_option maxHeartbeats 4000000 in
theorem mJ6_stringSize_0f7a4 {l : Launch} {g : ts_W} (hl : l.stackTraces = false) {p1 : Int} {Q : Int → ts_M → Prop} {M : ts_M} : wJ6_stringSize_0f7a4 p1 Q M → ts_Con l g yJ6_stringSize_0f7a4 cJ6_stringSize_0f7a4 4 (some .int) 0 0 0 [ts_v p1] M (ts_Ri Q) := by
  intro h0
  refine ts_Con.of hl (by decide) (Nat.le_of_ble_eq_true rfl) ?_
  intro p e s m args below meth c C
  have H16 : ∀ (n : Nat) (y0 : Int) (y1 : Int) (y2 : Int) (y3 : Int) (M : ts_M), ts_lp4 (wJ6_stringSize_0f7a4_L16   Q) n y0 y1 y2 y3 M → ts_V p l e (ts_rm 0 0 0) s m args below meth c g 4 0 0 (MQ below (ts_Q g (ts_Ri Q)) args s 0 0 (ts_A g)) 16 [(0, ts_v y0), (1, ts_v y1), (2, ts_v y2), (3, ts_v y3)] [] M := by
    refine ts_lpr4 (V := fun (y0 : Int) (y1 : Int) (y2 : Int) (y3 : Int) (M : ts_M) => ts_V p l e (ts_rm 0 0 0) s m args below meth c g 4 0 0 (MQ below (ts_Q g (ts_Ri Q)) args s 0 0 (ts_A g)) 16 [(0, ts_v y0), (1, ts_v y1), (2, ts_v y2), (3, ts_v y3)] [] M) ?_
    intro k16 hk16 y0 y1 y2 y3 M
    unfold wJ6_stringSize_0f7a4_L16
    refine ts_iload_n C dJ6_stringSize_0f7a4_16 rfl 3 rfl ?_
    refine ts_bipush C dJ6_stringSize_0f7a4_17 10 tb_10 ?_
    refine ts_cmp_ge C rfl tw_10 42 dJ6_stringSize_0f7a4_19 rfl ?_ ?_
    · refine ts_bipush C dJ6_stringSize_0f7a4_42 10 tb_10 ?_
      refine ts_iload_n C dJ6_stringSize_0f7a4_44 rfl 1 rfl ?_
      refine ts_iadd C dJ6_stringSize_0f7a4_45 ?_
      exact ts_ireti C (Nat.zero_le _) (Nat.zero_le _) dJ6_stringSize_0f7a4_46
    · refine ts_iload_n C dJ6_stringSize_0f7a4_22 rfl 0 rfl ?_
      refine ts_iload_n C dJ6_stringSize_0f7a4_23 rfl 2 rfl ?_
      refine ts_cmp_le C rfl rfl 31 dJ6_stringSize_0f7a4_24 rfl ?_ ?_
      · refine ts_bipush C dJ6_stringSize_0f7a4_31 10 tb_10 ?_
        refine ts_iload_n C dJ6_stringSize_0f7a4_33 rfl 2 rfl ?_
        refine ts_imul C dJ6_stringSize_0f7a4_34 ?_
        refine ts_istore_n C dJ6_stringSize_0f7a4_35 rfl (by decide) (lv' := fun x4 => [(2, ts_v x4), (0, ts_v y0), (1, ts_v y1), (3, ts_v y3)]) (fun _ => rfl) (fun x4 => ?_)
        refine ts_iinc C dJ6_stringSize_0f7a4_36 3 rfl (by decide) (lv' := fun x5 => [(3, ts_v x5), (2, ts_v x4), (0, ts_v y0), (1, ts_v y1)]) (fun _ => rfl) (fun x5 => ?_)
        refine ts_goto C 16 dJ6_stringSize_0f7a4_39 rfl ?_
        exact ts_sub [2, 3, 1, 0] rfl (hk16 _ _ _ _ _)
      · refine ts_iload_n C dJ6_stringSize_0f7a4_27 rfl 3 rfl ?_
        refine ts_iload_n C dJ6_stringSize_0f7a4_28 rfl 1 rfl ?_
        refine ts_iadd C dJ6_stringSize_0f7a4_29 ?_
        exact ts_ireti C (Nat.zero_le _) (Nat.zero_le _) dJ6_stringSize_0f7a4_30
  have H11 : ∀ (y0 : Int) (y1 : Int) (M : ts_M), wJ6_stringSize_0f7a4_B11   Q y0 y1 M → ts_V p l e (ts_rm 0 0 0) s m args below meth c g 4 0 0 (MQ below (ts_Q g (ts_Ri Q)) args s 0 0 (ts_A g)) 11 [(0, ts_v y0), (1, ts_v y1)] [] M := by
    intro  y0 y1 M
    unfold wJ6_stringSize_0f7a4_B11
    refine ts_bipush C dJ6_stringSize_0f7a4_11 (-10) tb_m10 ?_
    refine ts_istore_n C dJ6_stringSize_0f7a4_13 rfl (by decide) (lv' := fun x2 => [(2, ts_v x2), (0, ts_v y0), (1, ts_v y1)]) (fun _ => rfl) (fun x2 => ?_)
    refine ts_iconst C dJ6_stringSize_0f7a4_14 1 rfl ?_
    refine ts_istore_n C dJ6_stringSize_0f7a4_15 rfl (by decide) (lv' := fun x3 => [(3, ts_v x3), (2, ts_v x2), (0, ts_v y0), (1, ts_v y1)]) (fun _ => rfl) (fun x3 => ?_)
    rintro ⟨n, hn⟩
    exact ts_sub [2, 3, 1, 0] rfl (H16 n _ _ _ _ _) hn
  revert h0
  unfold wJ6_stringSize_0f7a4
  have hl0 : lv_args 0 [ts_v p1] = [(0, ts_v p1)] := rfl
  rw [hl0]
  refine ts_iconst C dJ6_stringSize_0f7a4_0 1 rfl ?_
  refine ts_istore_n C dJ6_stringSize_0f7a4_1 rfl (by decide) (lv' := fun x1 => [(1, ts_v x1), (0, ts_v p1)]) (fun _ => rfl) (fun x1 => ?_)
  refine ts_iload_n C dJ6_stringSize_0f7a4_2 rfl 1 rfl ?_
  refine ts_cm0_lt C rfl 11 dJ6_stringSize_0f7a4_3 rfl ?_ ?_
  · exact ts_sub [1, 0] rfl (H11 _ _ _)
  · refine ts_iconst C dJ6_stringSize_0f7a4_6 0 rfl ?_
    refine ts_istore_n C dJ6_stringSize_0f7a4_7 rfl (by decide) (lv' := fun x6 => [(1, ts_v x6), (0, ts_v p1)]) (fun _ => rfl) (fun x6 => ?_)
    refine ts_iload_n C dJ6_stringSize_0f7a4_8 rfl 1 rfl ?_
    refine ts_ineg C dJ6_stringSize_0f7a4_9 ?_
    refine ts_istore_n C dJ6_stringSize_0f7a4_10 rfl (by decide) (lv' := fun x7 => [(0, ts_v x7), (1, ts_v x6)]) (fun _ => rfl) (fun x7 => ?_)
    exact ts_sub [0, 1] rfl (H11 _ _ _)
def wJ6_getChars_ba4f3_B118   (Q : Int → ts_M → Prop)  (y5 : Int) (M : ts_M) : Prop :=
  Q y5 M
def wJ6_getChars_ba4f3_B104   (Q : Int → ts_M → Prop)  (y2 : Int) (y5 : Int) (y6 : Int) (M : ts_M) : Prop :=
  ((ts_w y6 = 0 → wJ6_getChars_ba4f3_B118 Q y5 M) ∧ (¬ (ts_w y6 = 0) → (∀ x5 : Int, x5 = y5 + (-1) → ((y2 = M.1 177 3 ∧ 0 ≤ ts_w x5 ∧ ts_w x5 < M.1 177 2) ∧ ∀ M6, M6 = ts_si M 178 (ts_w x5) (ts_nar .byte 45) → wJ6_getChars_ba4f3_B118 Q x5 M6))))
def wJ6_getChars_ba4f3_L22   (Q : Int → ts_M → Prop) (k22 : Int → Int → Int → Int → ts_M → Prop) (y0 : Int) (y2 : Int) (y5 : Int) (y6 : Int) (M : ts_M) : Prop :=
  (((-100) < ts_w y0 → (∀ x3 : Int, x3 = y5 + (-1) → ((0 ≤ ts_w (-y0) ∧ ts_w (-y0) < 100) ∧ ((y2 = M.1 177 3 ∧ 0 ≤ ts_w x3 ∧ ts_w x3 < M.1 177 2) ∧ ∀ M4, M4 = ts_si M 178 (ts_w x3) (ts_nar .byte (48 + ts_w (-y0) % 10)) → (((-9) ≤ ts_w y0 → wJ6_getChars_ba4f3_B104 Q y2 x3 y6 M4) ∧ (¬ ((-9) ≤ ts_w y0) → (∀ x7 : Int, x7 = x3 + (-1) → ((0 ≤ ts_w (-y0) ∧ ts_w (-y0) < 100) ∧ ((y2 = M4.1 177 3 ∧ 0 ≤ ts_w x7 ∧ ts_w x7 < M4.1 177 2) ∧ ∀ M8, M8 = ts_si M4 178 (ts_w x7) (ts_nar .byte (48 + ts_w (-y0) / 10)) → wJ6_getChars_ba4f3_B104 Q y2 x7 y6 M8))))))))) ∧ (¬ ((-100) < ts_w y0) → (∀ x9 : Int, x9 = ts_div y0 100 → (∀ x10 : Int, x10 = (x9 * 100) - y0 → (∀ x11 : Int, x11 = x9 → (∀ x12 : Int, x12 = y5 + (-1) → ((0 ≤ ts_w x10 ∧ ts_w x10 < 100) ∧ ((y2 = M.1 177 3 ∧ 0 ≤ ts_w x12 ∧ ts_w x12 < M.1 177 2) ∧ ∀ M13, M13 = ts_si M 178 (ts_w x12) (ts_nar .byte (48 + ts_w x10 % 10)) → (∀ x14 : Int, x14 = x12 + (-1) → ((0 ≤ ts_w x10 ∧ ts_w x10 < 100) ∧ ((y2 = M13.1 177 3 ∧ 0 ≤ ts_w x14 ∧ ts_w x14 < M13.1 177 2) ∧ ∀ M15, M15 = ts_si M13 178 (ts_w x14) (ts_nar .byte (48 + ts_w x10 / 10)) → k22 x11 y2 x14 y6 M15)))))))))))
def wJ6_getChars_ba4f3_B12   (Q : Int → ts_M → Prop)  (y0 : Int) (y2 : Int) (y5 : Int) (z0 : Int) (M : ts_M) : Prop :=
  (∀ x2 : Int, x2 = z0 → ((¬ (ts_w x2 = 0) → ∃ n, ts_lp4 (wJ6_getChars_ba4f3_L22 Q) n y0 y2 y5 x2 M) ∧ (ts_w x2 = 0 → (∀ x16 : Int, x16 = -y0 → ∃ n, ts_lp4 (wJ6_getChars_ba4f3_L22 Q) n x16 y2 y5 x2 M))))
def wJ6_getChars_ba4f3 (p1 : Int) (p2 : Int) (p3 : Int) (Q : Int → ts_M → Prop) (M : ts_M) : Prop :=
  (∀ x1 : Int, x1 = p2 → ((0 ≤ ts_w p1 → wJ6_getChars_ba4f3_B12 Q p1 p3 x1 0 M) ∧ (¬ (0 ≤ ts_w p1) → wJ6_getChars_ba4f3_B12 Q p1 p3 x1 1 M)))
set_option maxRecDepth 100000 in
set_option maxHeartbeats 4000000 in
theorem mJ6_getChars_ba4f3 {l : Launch} {g : ts_W} (hl : l.stackTraces = false) {p1 : Int} {p2 : Int} {p3 : Int} {Q : Int → ts_M → Prop} {M : ts_M} : wJ6_getChars_ba4f3 p1 p2 p3 Q M → ts_Con l g yJ6_getChars_ba4f3 cJ6_getChars_ba4f3 7 (some .int) 0 0 0 [ts_v p1, ts_v p2, .ref (Int.toNat p3)] M (ts_Ri Q) := by
  intro h0
  refine ts_Con.of hl (by decide) (Nat.le_of_ble_eq_true rfl) ?_
  intro p e s m args below meth c C
  have H118 : ∀ (y5 : Int) (M : ts_M), wJ6_getChars_ba4f3_B118   Q y5 M → ts_V p l e (ts_rm 0 0 0) s m args below meth c g 7 0 0 (MQ below (ts_Q g (ts_Ri Q)) args s 0 0 (ts_A g)) 118 [(5, ts_v y5)] [] M := by
    intro  y5 M
    unfold wJ6_getChars_ba4f3_B118
    refine ts_iload C dJ6_getChars_ba4f3_118 0 rfl ?_
    exact ts_ireti C (Nat.zero_le _) (Nat.zero_le _) dJ6_getChars_ba4f3_120
  have H104 : ∀ (y2 : Int) (y5 : Int) (y6 : Int) (M : ts_M), wJ6_getChars_ba4f3_B104   Q y2 y5 y6 M → ts_V p l e (ts_rm 0 0 0) s m args below meth c g 7 0 0 (MQ below (ts_Q g (ts_Ri Q)) args s 0 0 (ts_A g)) 104 [(2, .ref (Int.toNat y2)), (5, ts_v y5), (6, ts_v y6)] [] M := by
    intro  y2 y5 y6 M
    unfold wJ6_getChars_ba4f3_B104
    refine ts_iload C dJ6_getChars_ba4f3_104 2 rfl ?_
    refine ts_cm0_eq C rfl 118 dJ6_getChars_ba4f3_106 rfl ?_ ?_
    · exact ts_sub [1] rfl (H118 _ _)
    · refine ts_aload_n C dJ6_getChars_ba4f3_109 rfl 0 rfl ?_
      refine ts_iinc C dJ6_getChars_ba4f3_110 1 rfl (by decide) (lv' := fun x5 => [(5, ts_v x5), (2, .ref (Int.toNat y2)), (6, ts_v y6)]) (fun _ => rfl) (fun x5 => ?_)
      refine ts_iload C dJ6_getChars_ba4f3_113 0 rfl ?_
      refine ts_bipush C dJ6_getChars_ba4f3_115 45 tb_45 ?_
      refine ts_vst C dJ6_getChars_ba4f3_117 (fun M6 => ?_)
      exact ts_sub [0] rfl (H118 _ _)
  have H22 : ∀ (n : Nat) (y0 : Int) (y2 : Int) (y5 : Int) (y6 : Int) (M : ts_M), ts_lp4 (wJ6_getChars_ba4f3_L22   Q) n y0 y2 y5 y6 M → ts_V p l e (ts_rm 0 0 0) s m args below meth c g 7 0 0 (MQ below (ts_Q g (ts_Ri Q)) args s 0 0 (ts_A g)) 22 [(0, ts_v y0), (2, .ref (Int.toNat y2)), (5, ts_v y5), (6, ts_v y6)] [] M := by
    refine ts_lpr4 (V := fun (y0 : Int) (y2 : Int) (y5 : Int) (y6 : Int) (M : ts_M) => ts_V p l e (ts_rm 0 0 0) s m args below meth c g 7 0 0 (MQ below (ts_Q g (ts_Ri Q)) args s 0 0 (ts_A g)) 22 [(0, ts_v y0), (2, .ref (Int.toNat y2)), (5, ts_v y5), (6, ts_v y6)] [] M) ?_
    intro k22 hk22 y0 y2 y5 y6 M
    unfold wJ6_getChars_ba4f3_L22
    refine ts_iload_n C dJ6_getChars_ba4f3_22 rfl 0 rfl ?_
    refine ts_bipush C dJ6_getChars_ba4f3_23 (-100) tb_m100 ?_
    refine ts_cmp_gt C rfl tw_m100 72 dJ6_getChars_ba4f3_25 rfl ?_ ?_
    · refine ts_aload_n C dJ6_getChars_ba4f3_72 rfl 1 rfl ?_
      refine ts_iinc C dJ6_getChars_ba4f3_73 2 rfl (by decide) (lv' := fun x3 => [(5, ts_v x3), (0, ts_v y0), (2, .ref (Int.toNat y2)), (6, ts_v y6)]) (fun _ => rfl) (fun x3 => ?_)
      refine ts_iload C dJ6_getChars_ba4f3_76 0 rfl ?_
      refine ts_getDO C q_803 dJ6_getChars_ba4f3_78 ?_
      refine ts_iload_n C dJ6_getChars_ba4f3_81 rfl 1 rfl ?_
      refine ts_ineg C dJ6_getChars_ba4f3_82 ?_
      refine ts_ldDO C dJ6_getChars_ba4f3_83 ?_
      refine ts_vst C dJ6_getChars_ba4f3_84 (fun M4 => ?_)
      refine ts_iload_n C dJ6_getChars_ba4f3_85 rfl 1 rfl ?_
      refine ts_bipush C dJ6_getChars_ba4f3_86 (-9) tb_m9 ?_
      refine ts_cmp_ge C rfl tw_m9 104 dJ6_getChars_ba4f3_88 rfl ?_ ?_
      · exact ts_sub [2, 0, 3] rfl (H104 _ _ _ _)
      · refine ts_aload_n C dJ6_getChars_ba4f3_91 rfl 2 rfl ?_
        refine ts_iinc C dJ6_getChars_ba4f3_92 0 rfl (by decide) (lv' := fun x7 => [(5, ts_v x7), (0, ts_v y0), (2, .ref (Int.toNat y2)), (6, ts_v y6)]) (fun _ => rfl) (fun x7 => ?_)
        refine ts_iload C dJ6_getChars_ba4f3_95 0 rfl ?_
        refine ts_getDT C q_805 dJ6_getChars_ba4f3_97 ?_
        refine ts_iload_n C dJ6_getChars_ba4f3_100 rfl 1 rfl ?_
        refine ts_ineg C dJ6_getChars_ba4f3_101 ?_
        refine ts_ldDT C dJ6_getChars_ba4f3_102 ?_
        refine ts_vst C dJ6_getChars_ba4f3_103 (fun M8 => ?_)
        exact ts_sub [2, 0, 3] rfl (H104 _ _ _ _)
    · refine ts_iload_n C dJ6_getChars_ba4f3_28 rfl 0 rfl ?_
      refine ts_bipush C dJ6_getChars_ba4f3_29 100 tb_100 ?_
      refine ts_idivc C (by rw [tw_100]; decide) dJ6_getChars_ba4f3_31 ?_
      refine ts_istore_n C dJ6_getChars_ba4f3_32 rfl (by decide) (lv' := fun x9 => [(3, ts_v x9), (0, ts_v y0), (2, .ref (Int.toNat y2)), (5, ts_v y5), (6, ts_v y6)]) (fun _ => rfl) (fun x9 => ?_)
      refine ts_iload_n C dJ6_getChars_ba4f3_33 rfl 0 rfl ?_
      refine ts_bipush C dJ6_getChars_ba4f3_34 100 tb_100 ?_
      refine ts_imul C dJ6_getChars_ba4f3_36 ?_
      refine ts_iload_n C dJ6_getChars_ba4f3_37 rfl 1 rfl ?_
      refine ts_isub C dJ6_getChars_ba4f3_38 ?_
      refine ts_istore C dJ6_getChars_ba4f3_39 (by decide) (lv' := fun x10 => [(4, ts_v x10), (3, ts_v x9), (0, ts_v y0), (2, .ref (Int.toNat y2)), (5, ts_v y5), (6, ts_v y6)]) (fun _ => rfl) (fun x10 => ?_)
      refine ts_iload_n C dJ6_getChars_ba4f3_41 rfl 1 rfl ?_
      refine ts_istore_n C dJ6_getChars_ba4f3_42 rfl (by decide) (lv' := fun x11 => [(0, ts_v x11), (4, ts_v x10), (3, ts_v x9), (2, .ref (Int.toNat y2)), (5, ts_v y5), (6, ts_v y6)]) (fun _ => rfl) (fun x11 => ?_)
      refine ts_aload_n C dJ6_getChars_ba4f3_43 rfl 3 rfl ?_
      refine ts_iinc C dJ6_getChars_ba4f3_44 4 rfl (by decide) (lv' := fun x12 => [(5, ts_v x12), (0, ts_v x11), (4, ts_v x10), (3, ts_v x9), (2, .ref (Int.toNat y2)), (6, ts_v y6)]) (fun _ => rfl) (fun x12 => ?_)
      refine ts_iload C dJ6_getChars_ba4f3_47 0 rfl ?_
      refine ts_getDO C q_803 dJ6_getChars_ba4f3_49 ?_
      refine ts_iload C dJ6_getChars_ba4f3_52 2 rfl ?_
      refine ts_ldDO C dJ6_getChars_ba4f3_54 ?_
      refine ts_vst C dJ6_getChars_ba4f3_55 (fun M13 => ?_)
      refine ts_aload_n C dJ6_getChars_ba4f3_56 rfl 4 rfl ?_
      refine ts_iinc C dJ6_getChars_ba4f3_57 0 rfl (by decide) (lv' := fun x14 => [(5, ts_v x14), (0, ts_v x11), (4, ts_v x10), (3, ts_v x9), (2, .ref (Int.toNat y2)), (6, ts_v y6)]) (fun _ => rfl) (fun x14 => ?_)
      refine ts_iload C dJ6_getChars_ba4f3_60 0 rfl ?_
      refine ts_getDT C q_805 dJ6_getChars_ba4f3_62 ?_
      refine ts_iload C dJ6_getChars_ba4f3_65 2 rfl ?_
      refine ts_ldDT C dJ6_getChars_ba4f3_67 ?_
      refine ts_vst C dJ6_getChars_ba4f3_68 (fun M15 => ?_)
      refine ts_goto C 22 dJ6_getChars_ba4f3_69 rfl ?_
      exact ts_sub [1, 4, 0, 5] rfl (hk22 _ _ _ _ _)
  have H12 : ∀ (y0 : Int) (y2 : Int) (y5 : Int) (z0 : Int) (M : ts_M), wJ6_getChars_ba4f3_B12   Q y0 y2 y5 z0 M → ts_V p l e (ts_rm 0 0 0) s m args below meth c g 7 0 0 (MQ below (ts_Q g (ts_Ri Q)) args s 0 0 (ts_A g)) 12 [(0, ts_v y0), (2, .ref (Int.toNat y2)), (5, ts_v y5)] [ts_v z0] M := by
    intro  y0 y2 y5 z0 M
    unfold wJ6_getChars_ba4f3_B12
    refine ts_istore C dJ6_getChars_ba4f3_12 (by decide) (lv' := fun x2 => [(6, ts_v x2), (0, ts_v y0), (2, .ref (Int.toNat y2)), (5, ts_v y5)]) (fun _ => rfl) (fun x2 => ?_)
    refine ts_iload C dJ6_getChars_ba4f3_14 0 rfl ?_
    refine ts_cm0_ne C rfl 22 dJ6_getChars_ba4f3_16 rfl ?_ ?_
    · rintro ⟨n, hn⟩
      exact ts_sub [1, 2, 3, 0] rfl (H22 n _ _ _ _ _) hn
    · refine ts_iload_n C dJ6_getChars_ba4f3_19 rfl 1 rfl ?_
      refine ts_ineg C dJ6_getChars_ba4f3_20 ?_
      refine ts_istore_n C dJ6_getChars_ba4f3_21 rfl (by decide) (lv' := fun x16 => [(0, ts_v x16), (6, ts_v x2), (2, .ref (Int.toNat y2)), (5, ts_v y5)]) (fun _ => rfl) (fun x16 => ?_)
      rintro ⟨n, hn⟩
      exact ts_sub [0, 2, 3, 1] rfl (H22 n _ _ _ _ _) hn
  revert h0
  unfold wJ6_getChars_ba4f3
  have hl0 : lv_args 0 [ts_v p1, ts_v p2, .ref (Int.toNat p3)] = [(0, ts_v p1), (1, ts_v p2), (2, .ref (Int.toNat p3))] := rfl
  rw [hl0]
  refine ts_iload_n C dJ6_getChars_ba4f3_0 rfl 1 rfl ?_
  refine ts_istore C dJ6_getChars_ba4f3_1 (by decide) (lv' := fun x1 => [(5, ts_v x1), (0, ts_v p1), (1, ts_v p2), (2, .ref (Int.toNat p3))]) (fun _ => rfl) (fun x1 => ?_)
  refine ts_iload_n C dJ6_getChars_ba4f3_3 rfl 1 rfl ?_
  refine ts_cm0_ge C rfl 11 dJ6_getChars_ba4f3_4 rfl ?_ ?_
  · refine ts_iconst C dJ6_getChars_ba4f3_11 0 rfl ?_
    exact ts_sub [1, 3, 0] rfl (H12 _ _ _ _ _)
  · refine ts_iconst C dJ6_getChars_ba4f3_7 1 rfl ?_
    refine ts_goto C 12 dJ6_getChars_ba4f3_8 rfl ?_
    exact ts_sub [1, 3, 0] rfl (H12 _ _ _ _ _)
def wJ7_copyOf_9075b (p1 : Int) (p2 : Int) (Q : Int → ts_M → Prop) (M : ts_M) : Prop :=
  ((p1 = M.1 177 3 ∧ 0 ≤ M.1 177 2) ∧ ((¬ (ts_w p2 = ts_w (M.1 177 2)) → ((M.1 177 4 < 0 ∧ 0 ≤ ts_w p2 ∧ ts_w p2 ≤ 70) ∧ ∀ (q1 : Int) M2, 0 ≤ q1 → M2 = ts_new M q1 (ts_w p2) → ((p1 = M2.1 177 3 ∧ 0 ≤ M2.1 177 2) ∧ (wJ9_min_7cf53 (M2.1 177 2) p2 (fun r4 M3 => ((p1 = M3.1 177 3 ∧ q1 = M3.1 177 4 ∧ 0 ≤ q1 ∧ 0 ≤ ts_w r4 ∧ ts_w r4 ≤ M3.1 177 2 ∧ ts_w r4 ≤ M3.1 177 5) ∧ ∀ M5, M5 = ts_cpB M3 (ts_w r4) → Q q1 M5)) M2)))) ∧ (ts_w p2 = ts_w (M.1 177 2) → False)))
set_option maxRecDepth 100000 in
set_option maxHeartbeats 4000000 in
theorem mJ7_copyOf_9075b {l : Launch} {g : ts_W} (hl : l.stackTraces = false) {p1 : Int} {p2 : Int} {Q : Int → ts_M → Prop} {M : ts_M} : wJ7_copyOf_9075b p1 p2 Q M → ts_Con l g yJ7_copyOf_9075b cJ7_copyOf_9075b 3 (Option.some (.array .byte)) 2 1 70 [.ref (Int.toNat p1), ts_v p2] M (ts_Rq Q) := by
  intro h0
  refine ts_Con.of hl (by decide) (Nat.le_of_ble_eq_true rfl) ?_
  intro p e s m args below meth c C
  revert h0
  unfold wJ7_copyOf_9075b
  have hl0 : lv_args 0 [.ref (Int.toNat p1), ts_v p2] = [(0, .ref (Int.toNat p1)), (1, ts_v p2)] := rfl
  rw [hl0]
  refine ts_iload_n C dJ7_copyOf_9075b_0 rfl 1 rfl ?_
  refine ts_aload_n C dJ7_copyOf_9075b_1 rfl 0 rfl ?_
  refine ts_vlen C dJ7_copyOf_9075b_2 ?_
  refine ts_cmp_ne C rfl rfl 14 dJ7_copyOf_9075b_3 rfl ?_ ?_
  · refine ts_iload_n C dJ7_copyOf_9075b_14 rfl 1 rfl ?_
    refine ts_newB C dJ7_copyOf_9075b_15 ⟨Nat.le_of_ble_eq_true rfl, Nat.le_of_ble_eq_true rfl⟩ (fun q1 M2 => ?_)
    refine ts_astore_n C dJ7_copyOf_9075b_17 rfl (by decide) (lv' := [(2, .ref (Int.toNat q1)), (0, .ref (Int.toNat p1)), (1, ts_v p2)]) rfl ?_
    refine ts_aload_n C dJ7_copyOf_9075b_18 rfl 1 rfl ?_
    refine ts_iconst C dJ7_copyOf_9075b_19 0 rfl ?_
    refine ts_aload_n C dJ7_copyOf_9075b_20 rfl 0 rfl ?_
    refine ts_iconst C dJ7_copyOf_9075b_21 0 rfl ?_
    refine ts_aload_n C dJ7_copyOf_9075b_22 rfl 1 rfl ?_
    refine ts_vlen C dJ7_copyOf_9075b_23 ?_
    refine ts_iload_n C dJ7_copyOf_9075b_24 rfl 2 rfl ?_
    refine ts_callSi C [ts_v (M2.1 177 2), ts_v p2] (mJ9_min_7cf53 hl) kJ9_min_7cf53 q_712 rfl rfl (Nat.le_of_ble_eq_true rfl) ⟨Nat.le_of_ble_eq_true rfl, Nat.le_of_ble_eq_true rfl⟩ ⟨Nat.le_of_ble_eq_true rfl, Nat.le_of_ble_eq_true rfl⟩ dJ7_copyOf_9075b_25 (fun r4 M3 => ?_)
    refine ts_cpyB C q_713 q_715 q_714 q_146 (Nat.le_of_ble_eq_true rfl) (Nat.le_of_ble_eq_true rfl) (Nat.le_of_ble_eq_true rfl) dJ7_copyOf_9075b_28 (fun M5 => ?_)
    refine ts_aload_n C dJ7_copyOf_9075b_31 rfl 0 rfl ?_
    exact ts_qreti C (Nat.le_of_ble_eq_true rfl) (Nat.le_of_ble_eq_true rfl) dJ7_copyOf_9075b_32
  · exact fun h => h.elim
def wJ8_newLength_cabcc (p1 : Int) (p2 : Int) (p3 : Int) (Q : Int → ts_M → Prop) (M : ts_M) : Prop :=
  (wJ9_max_7cf53 p2 p3 (fun r2 M1 => (∀ x3 : Int, x3 = p1 + r2 → ((ts_w x3 ≤ 0 → False) ∧ (¬ (ts_w x3 ≤ 0) → ((2147483639 < ts_w x3 → False) ∧ (¬ (2147483639 < ts_w x3) → Q x3 M1)))))) M)
set_option maxRecDepth 100000 in
set_option maxHeartbeats 4000000 in
theorem mJ8_newLength_cabcc {l : Launch} {g : ts_W} (hl : l.stackTraces = false) {p1 : Int} {p2 : Int} {p3 : Int} {Q : Int → ts_M → Prop} {M : ts_M} : wJ8_newLength_cabcc p1 p2 p3 Q M → ts_Con l g yJ8_newLength_cabcc cJ8_newLength_cabcc 4 (some .int) 1 0 0 [ts_v p1, ts_v p2, ts_v p3] M (ts_Ri Q) := by
  intro h0
  refine ts_Con.of hl (by decide) (Nat.le_of_ble_eq_true rfl) ?_
  intro p e s m args below meth c C
  revert h0
  unfold wJ8_newLength_cabcc
  have hl0 : lv_args 0 [ts_v p1, ts_v p2, ts_v p3] = [(0, ts_v p1), (1, ts_v p2), (2, ts_v p3)] := rfl
  rw [hl0]
  refine ts_iload_n C dJ8_newLength_cabcc_0 rfl 0 rfl ?_
  refine ts_iload_n C dJ8_newLength_cabcc_1 rfl 1 rfl ?_
  refine ts_iload_n C dJ8_newLength_cabcc_2 rfl 2 rfl ?_
  refine ts_callSi C [ts_v p2, ts_v p3] (mJ9_max_7cf53 hl) kJ9_max_7cf53 q_696 rfl rfl (Nat.le_of_ble_eq_true rfl) ⟨Nat.le_of_ble_eq_true rfl, Nat.le_of_ble_eq_true rfl⟩ ⟨Nat.le_of_ble_eq_true rfl, Nat.le_of_ble_eq_true rfl⟩ dJ8_newLength_cabcc_3 (fun r2 M1 => ?_)
  refine ts_iadd C dJ8_newLength_cabcc_6 ?_
  refine ts_istore_n C dJ8_newLength_cabcc_7 rfl (by decide) (lv' := fun x3 => [(3, ts_v x3), (0, ts_v p1), (1, ts_v p2), (2, ts_v p3)]) (fun _ => rfl) (fun x3 => ?_)
  refine ts_iconst C dJ8_newLength_cabcc_8 0 rfl ?_
  refine ts_iload_n C dJ8_newLength_cabcc_9 rfl 0 rfl ?_
  refine ts_cmp_ge C tw_0 rfl 21 dJ8_newLength_cabcc_10 rfl ?_ ?_
  · exact fun h => h.elim
  · refine ts_iload_n C dJ8_newLength_cabcc_13 rfl 0 rfl ?_
    refine ts_ldc C dJ8_newLength_cabcc_14 q_697 2147483639 (by decide) ?_
    refine ts_cmp_gt C rfl tw_2147483639 21 dJ8_newLength_cabcc_16 rfl ?_ ?_
    · exact fun h => h.elim
    · refine ts_iload_n C dJ8_newLength_cabcc_19 rfl 0 rfl ?_
      exact ts_ireti C (Nat.zero_le _) (Nat.zero_le _) dJ8_newLength_cabcc_20
def wJ4_length_8abf5 (Q : Int → ts_M → Prop) (M : ts_M) : Prop :=
  (wJ5_length_8abf5  (fun r2 M1 => Q r2 M1) M)
set_option maxRecDepth 100000 in
set_option maxHeartbeats 4000000 in
theorem mJ4_length_8abf5 {l : Launch} {g : ts_W} (hl : l.stackTraces = false) {Q : Int → ts_M → Prop} {M : ts_M} : wJ4_length_8abf5 Q M → ts_Con l g yJ4_length_8abf5 cJ4_length_8abf5 1 (some .int) 1 0 0 [.ref (ts_ad g 177)] M (ts_Ri Q) := by
  intro h0
  refine ts_Con.of hl (by decide) (Nat.le_of_ble_eq_true rfl) ?_
  intro p e s m args below meth c C
  revert h0
  unfold wJ4_length_8abf5
  have hl0 : lv_args 0 [.ref (ts_ad g 177)] = [(0, .ref (ts_ad g 177))] := rfl
  rw [hl0]
  refine ts_aload_n C dJ4_length_8abf5_0 rfl 0 rfl ?_
  refine ts_callUi C [] (mJ5_length_8abf5 hl) kuJ5_length_8abf5 q_839 rfl rfl (Nat.le_of_ble_eq_true rfl) ⟨Nat.le_of_ble_eq_true rfl, Nat.le_of_ble_eq_true rfl⟩ ⟨Nat.le_of_ble_eq_true rfl, Nat.le_of_ble_eq_true rfl⟩ dJ4_length_8abf5_1 (fun r2 M1 => ?_)
  exact ts_ireti C (Nat.zero_le _) (Nat.zero_le _) dJ4_length_8abf5_4
def wJ5_charAt_5068e (p1 : Int) (Q : Int → ts_M → Prop) (M : ts_M) : Prop :=
  (∀ x1 : Int, x1 = 0 → (∀ q2 : Int, q2 = M.1 177 3 → ((q2 = M.1 177 3 ∧ 0 ≤ M.1 177 2) ∧ (wJ9_min_7cf53 (M.1 177 0) (ts_shr (M.1 177 2) x1) (fun r4 M3 => (∀ x5 : Int, x5 = r4 → (wJ0_checkIndex_df160 p1 x5 (fun M6 => ((¬ (ts_w x1 = 0) → False) ∧ (ts_w x1 = 0 → ((q2 = M6.1 177 3 ∧ 0 ≤ ts_w p1 ∧ ts_w p1 < M6.1 177 2) ∧ ((0 ≤ ts_w (ts_i2c (ts_and (M6.1 178 (ts_w p1)) 255)) ∧ ts_w (ts_i2c (ts_and (M6.1 178 (ts_w p1)) 255)) < 65536) ∧ Q (ts_i2c (ts_and (M6.1 178 (ts_w p1)) 255)) M6))))) M3))) M))))
set_option maxRecDepth 100000 in
set_option maxHeartbeats 4000000 in
theorem mJ5_charAt_5068e {l : Launch} {g : ts_W} (hl : l.stackTraces = false) {p1 : Int} {Q : Int → ts_M → Prop} {M : ts_M} : wJ5_charAt_5068e p1 Q M → ts_Con l g yJ5_charAt_5068e cJ5_charAt_5068e 5 (some .char) 2 0 0 [.ref (ts_ad g 177), ts_v p1] M (ts_Ri Q) := by
  intro h0
  refine ts_Con.of hl (by decide) (Nat.le_of_ble_eq_true rfl) ?_
  intro p e s m args below meth c C
  revert h0
  unfold wJ5_charAt_5068e
  have hl0 : lv_args 0 [.ref (ts_ad g 177), ts_v p1] = [(0, .ref (ts_ad g 177)), (1, ts_v p1)] := rfl
  rw [hl0]
  refine ts_aload_n C dJ5_charAt_5068e_0 rfl 0 rfl ?_
  refine ts_sbgc C q_414 dJ5_charAt_5068e_1 ?_
  refine ts_istore_n C dJ5_charAt_5068e_4 rfl (by decide) (lv' := fun x1 => [(2, ts_v x1), (0, .ref (ts_ad g 177)), (1, ts_v p1)]) (fun _ => rfl) (fun x1 => ?_)
  refine ts_aload_n C dJ5_charAt_5068e_5 rfl 1 rfl ?_
  refine ts_sbgV C q_413 dJ5_charAt_5068e_6 (fun q2 => ?_)
  refine ts_astore_n C dJ5_charAt_5068e_9 rfl (by decide) (lv' := [(3, .ref (Int.toNat q2)), (2, ts_v x1), (0, .ref (ts_ad g 177)), (1, ts_v p1)]) rfl ?_
  refine ts_aload_n C dJ5_charAt_5068e_10 rfl 2 rfl ?_
  refine ts_sbgn C q_417 dJ5_charAt_5068e_11 ?_
  refine ts_aload_n C dJ5_charAt_5068e_14 rfl 0 rfl ?_
  refine ts_vlen C dJ5_charAt_5068e_15 ?_
  refine ts_iload_n C dJ5_charAt_5068e_16 rfl 1 rfl ?_
  refine ts_ishr C dJ5_charAt_5068e_17 ?_
  refine ts_callSi C [ts_v (M.1 177 0), ts_v (ts_shr (M.1 177 2) x1)] (mJ9_min_7cf53 hl) kJ9_min_7cf53 q_1828 rfl rfl (Nat.le_of_ble_eq_true rfl) ⟨Nat.le_of_ble_eq_true rfl, Nat.le_of_ble_eq_true rfl⟩ ⟨Nat.le_of_ble_eq_true rfl, Nat.le_of_ble_eq_true rfl⟩ dJ5_charAt_5068e_18 (fun r4 M3 => ?_)
  refine ts_istore C dJ5_charAt_5068e_21 (by decide) (lv' := fun x5 => [(4, ts_v x5), (3, .ref (Int.toNat q2)), (2, ts_v x1), (0, .ref (ts_ad g 177)), (1, ts_v p1)]) (fun _ => rfl) (fun x5 => ?_)
  refine ts_iload_n C dJ5_charAt_5068e_23 rfl 4 rfl ?_
  refine ts_iload C dJ5_charAt_5068e_24 0 rfl ?_
  refine ts_callSv C [ts_v p1, ts_v x5] (mJ0_checkIndex_df160 hl) kJ0_checkIndex_df160 q_1829 rfl rfl (Nat.le_of_ble_eq_true rfl) ⟨Nat.le_of_ble_eq_true rfl, Nat.le_of_ble_eq_true rfl⟩ ⟨Nat.le_of_ble_eq_true rfl, Nat.le_of_ble_eq_true rfl⟩ dJ5_charAt_5068e_26 (fun M6 => ?_)
  refine ts_iload_n C dJ5_charAt_5068e_29 rfl 2 rfl ?_
  refine ts_cm0_ne C rfl 42 dJ5_charAt_5068e_30 rfl ?_ ?_
  · exact fun h => h.elim
  · refine ts_aload_n C dJ5_charAt_5068e_33 rfl 1 rfl ?_
    refine ts_iload_n C dJ5_charAt_5068e_34 rfl 4 rfl ?_
    refine ts_vld C dJ5_charAt_5068e_35 ?_
    refine ts_sipush C dJ5_charAt_5068e_36 255 tsp_255 ?_
    refine ts_iand C dJ5_charAt_5068e_39 ?_
    refine ts_i2c0 C dJ5_charAt_5068e_40 ?_
    exact ts_creti C (Nat.zero_le _) (Nat.zero_le _) dJ5_charAt_5068e_41
def wJ5_newCapacity_0f7a4 (p1 : Int) (Q : Int → ts_M → Prop) (M : ts_M) : Prop :=
  (∀ q1 : Int, q1 = M.1 177 3 → ((q1 = M.1 177 3 ∧ 0 ≤ M.1 177 2) ∧ (∀ x2 : Int, x2 = M.1 177 2 → (∀ x3 : Int, x3 = ts_shl p1 0 → (∀ x4 : Int, x4 = x3 - x2 → (wJ8_newLength_cabcc x2 x4 (x2 + (ts_shl 2 0)) (fun r6 M5 => (∀ x7 : Int, x7 = r6 → ((¬ (ts_w x7 = 2147483647) → Q (ts_shr x7 0) M5) ∧ (ts_w x7 = 2147483647 → False)))) M))))))
set_option maxRecDepth 100000 in
set_option maxHeartbeats 4000000 in
theorem mJ5_newCapacity_0f7a4 {l : Launch} {g : ts_W} (hl : l.stackTraces = false) {p1 : Int} {Q : Int → ts_M → Prop} {M : ts_M} : wJ5_newCapacity_0f7a4 p1 Q M → ts_Con l g yJ5_newCapacity_0f7a4 cJ5_newCapacity_0f7a4 6 (some .int) 2 0 0 [.ref (ts_ad g 177), ts_v p1] M (ts_Ri Q) := by
  intro h0
  refine ts_Con.of hl (by decide) (Nat.le_of_ble_eq_true rfl) ?_
  intro p e s m args below meth c C
  revert h0
  unfold wJ5_newCapacity_0f7a4
  have hl0 : lv_args 0 [.ref (ts_ad g 177), ts_v p1] = [(0, .ref (ts_ad g 177)), (1, ts_v p1)] := rfl
  rw [hl0]
  refine ts_aload_n C dJ5_newCapacity_0f7a4_0 rfl 0 rfl ?_
  refine ts_sbgV C q_413 dJ5_newCapacity_0f7a4_1 (fun q1 => ?_)
  refine ts_vlen C dJ5_newCapacity_0f7a4_4 ?_
  refine ts_istore_n C dJ5_newCapacity_0f7a4_5 rfl (by decide) (lv' := fun x2 => [(2, ts_v x2), (0, .ref (ts_ad g 177)), (1, ts_v p1)]) (fun _ => rfl) (fun x2 => ?_)
  refine ts_iload_n C dJ5_newCapacity_0f7a4_6 rfl 2 rfl ?_
  refine ts_aload_n C dJ5_newCapacity_0f7a4_7 rfl 1 rfl ?_
  refine ts_sbgc C q_414 dJ5_newCapacity_0f7a4_8 ?_
  refine ts_ishl C dJ5_newCapacity_0f7a4_11 ?_
  refine ts_istore_n C dJ5_newCapacity_0f7a4_12 rfl (by decide) (lv' := fun x3 => [(3, ts_v x3), (2, ts_v x2), (0, .ref (ts_ad g 177)), (1, ts_v p1)]) (fun _ => rfl) (fun x3 => ?_)
  refine ts_iload_n C dJ5_newCapacity_0f7a4_13 rfl 0 rfl ?_
  refine ts_iload_n C dJ5_newCapacity_0f7a4_14 rfl 1 rfl ?_
  refine ts_isub C dJ5_newCapacity_0f7a4_15 ?_
  refine ts_istore C dJ5_newCapacity_0f7a4_16 (by decide) (lv' := fun x4 => [(4, ts_v x4), (3, ts_v x3), (2, ts_v x2), (0, .ref (ts_ad g 177)), (1, ts_v p1)]) (fun _ => rfl) (fun x4 => ?_)
  refine ts_iload_n C dJ5_newCapacity_0f7a4_18 rfl 2 rfl ?_
  refine ts_iload C dJ5_newCapacity_0f7a4_19 0 rfl ?_
  refine ts_iload_n C dJ5_newCapacity_0f7a4_21 rfl 2 rfl ?_
  refine ts_iconst C dJ5_newCapacity_0f7a4_22 2 rfl ?_
  refine ts_aload_n C dJ5_newCapacity_0f7a4_23 rfl 3 rfl ?_
  refine ts_sbgc C q_414 dJ5_newCapacity_0f7a4_24 ?_
  refine ts_ishl C dJ5_newCapacity_0f7a4_27 ?_
  refine ts_iadd C dJ5_newCapacity_0f7a4_28 ?_
  refine ts_callSi C [ts_v x2, ts_v x4, ts_v (x2 + (ts_shl 2 0))] (mJ8_newLength_cabcc hl) kJ8_newLength_cabcc q_693 rfl rfl (Nat.le_of_ble_eq_true rfl) ⟨Nat.le_of_ble_eq_true rfl, Nat.le_of_ble_eq_true rfl⟩ ⟨Nat.le_of_ble_eq_true rfl, Nat.le_of_ble_eq_true rfl⟩ dJ5_newCapacity_0f7a4_29 (fun r6 M5 => ?_)
  refine ts_istore C dJ5_newCapacity_0f7a4_32 (by decide) (lv' := fun x7 => [(5, ts_v x7), (4, ts_v x4), (3, ts_v x3), (2, ts_v x2), (0, .ref (ts_ad g 177)), (1, ts_v p1)]) (fun _ => rfl) (fun x7 => ?_)
  refine ts_iload C dJ5_newCapacity_0f7a4_34 0 rfl ?_
  refine ts_ldc C dJ5_newCapacity_0f7a4_36 q_701 2147483647 (by decide) ?_
  refine ts_cmp_ne C rfl tw_2147483647 51 dJ5_newCapacity_0f7a4_38 rfl ?_ ?_
  · refine ts_iload C dJ5_newCapacity_0f7a4_51 0 rfl ?_
    refine ts_aload_n C dJ5_newCapacity_0f7a4_53 rfl 4 rfl ?_
    refine ts_sbgc C q_414 dJ5_newCapacity_0f7a4_54 ?_
    refine ts_ishr C dJ5_newCapacity_0f7a4_57 ?_
    exact ts_ireti C (Nat.zero_le _) (Nat.zero_le _) dJ5_newCapacity_0f7a4_58
  · exact fun h => h.elim
def wJ4_charAt_5068e (p1 : Int) (Q : Int → ts_M → Prop) (M : ts_M) : Prop :=
  (wJ5_charAt_5068e p1 (fun r2 M1 => ((0 ≤ ts_w r2 ∧ ts_w r2 < 65536) ∧ Q r2 M1)) M)
set_option maxRecDepth 100000 in
set_option maxHeartbeats 4000000 in
theorem mJ4_charAt_5068e {l : Launch} {g : ts_W} (hl : l.stackTraces = false) {p1 : Int} {Q : Int → ts_M → Prop} {M : ts_M} : wJ4_charAt_5068e p1 Q M → ts_Con l g yJ4_charAt_5068e cJ4_charAt_5068e 2 (some .char) 3 0 0 [.ref (ts_ad g 177), ts_v p1] M (ts_Ri Q) := by
  intro h0
  refine ts_Con.of hl (by decide) (Nat.le_of_ble_eq_true rfl) ?_
  intro p e s m args below meth c C
  revert h0
  unfold wJ4_charAt_5068e
  have hl0 : lv_args 0 [.ref (ts_ad g 177), ts_v p1] = [(0, .ref (ts_ad g 177)), (1, ts_v p1)] := rfl
  rw [hl0]
  refine ts_aload_n C dJ4_charAt_5068e_0 rfl 0 rfl ?_
  refine ts_iload_n C dJ4_charAt_5068e_1 rfl 1 rfl ?_
  refine ts_callUi C [ts_v p1] (mJ5_charAt_5068e hl) kuJ5_charAt_5068e q_1825 rfl rfl (Nat.le_of_ble_eq_true rfl) ⟨Nat.le_of_ble_eq_true rfl, Nat.le_of_ble_eq_true rfl⟩ ⟨Nat.le_of_ble_eq_true rfl, Nat.le_of_ble_eq_true rfl⟩ dJ4_charAt_5068e_2 (fun r2 M1 => ?_)
  exact ts_creti C (Nat.zero_le _) (Nat.zero_le _) dJ4_charAt_5068e_5
def wJ5_ensureCapacityInternal_d00df_B38   (Q : ts_M → Prop)   (M : ts_M) : Prop :=
  Q M
def wJ5_ensureCapacityInternal_d00df (p1 : Int) (Q : ts_M → Prop) (M : ts_M) : Prop :=
  (∀ q1 : Int, q1 = M.1 177 3 → ((q1 = M.1 177 3 ∧ 0 ≤ M.1 177 2) ∧ (∀ x2 : Int, x2 = ts_shr (M.1 177 2) 0 → ((ts_w (p1 - x2) ≤ 0 → wJ5_ensureCapacityInternal_d00df_B38 Q M) ∧ (¬ (ts_w (p1 - x2) ≤ 0) → (∀ q3 : Int, q3 = M.1 177 3 → (wJ5_newCapacity_0f7a4 p1 (fun r5 M4 => (wJ7_copyOf_9075b q3 (ts_shl r5 0) (fun r7 M6 => ((r7 = M6.1 177 4 ∧ 0 ≤ r7) ∧ ∀ M8, M8 = ts_swp M6 → wJ5_ensureCapacityInternal_d00df_B38 Q M8)) M4)) M)))))))
set_option maxRecDepth 100000 in
set_option maxHeartbeats 4000000 in
theorem mJ5_ensureCapacityInternal_d00df {l : Launch} {g : ts_W} (hl : l.stackTraces = false) {p1 : Int} {Q : ts_M → Prop} {M : ts_M} : wJ5_ensureCapacityInternal_d00df p1 Q M → ts_Con l g yJ5_ensureCapacityInternal_d00df cJ5_ensureCapacityInternal_d00df 3 none 3 1 70 [.ref (ts_ad g 177), ts_v p1] M (ts_Rv Q) := by
  intro h0
  refine ts_Con.of hl (by decide) (Nat.le_of_ble_eq_true rfl) ?_
  intro p e s m args below meth c C
  have H38 : ∀  (M : ts_M), wJ5_ensureCapacityInternal_d00df_B38   Q  M → ts_V p l e (ts_rm 3 1 70) s m args below meth c g 3 1 70 (MQ below (ts_Q g (ts_Rv Q)) args s 1 70 (ts_A g)) 38 [] [] M := by
    intro   M
    unfold wJ5_ensureCapacityInternal_d00df_B38
    exact ts_vreti C (Nat.le_of_ble_eq_true rfl) (Nat.le_of_ble_eq_true rfl) dJ5_ensureCapacityInternal_d00df_38
  revert h0
  unfold wJ5_ensureCapacityInternal_d00df
  have hl0 : lv_args 0 [.ref (ts_ad g 177), ts_v p1] = [(0, .ref (ts_ad g 177)), (1, ts_v p1)] := rfl
  rw [hl0]
  refine ts_aload_n C dJ5_ensureCapacityInternal_d00df_0 rfl 0 rfl ?_
  refine ts_sbgV C q_413 dJ5_ensureCapacityInternal_d00df_1 (fun q1 => ?_)
  refine ts_vlen C dJ5_ensureCapacityInternal_d00df_4 ?_
  refine ts_aload_n C dJ5_ensureCapacityInternal_d00df_5 rfl 0 rfl ?_
  refine ts_sbgc C q_414 dJ5_ensureCapacityInternal_d00df_6 ?_
  refine ts_ishr C dJ5_ensureCapacityInternal_d00df_9 ?_
  refine ts_istore_n C dJ5_ensureCapacityInternal_d00df_10 rfl (by decide) (lv' := fun x2 => [(2, ts_v x2), (0, .ref (ts_ad g 177)), (1, ts_v p1)]) (fun _ => rfl) (fun x2 => ?_)
  refine ts_iload_n C dJ5_ensureCapacityInternal_d00df_11 rfl 2 rfl ?_
  refine ts_iload_n C dJ5_ensureCapacityInternal_d00df_12 rfl 0 rfl ?_
  refine ts_isub C dJ5_ensureCapacityInternal_d00df_13 ?_
  refine ts_cm0_le C rfl 38 dJ5_ensureCapacityInternal_d00df_14 rfl ?_ ?_
  · exact ts_wid (by omega) (by omega) (ts_sub [] rfl (H38 _))
  · refine ts_aload_n C dJ5_ensureCapacityInternal_d00df_17 rfl 1 rfl ?_
    refine ts_aload_n C dJ5_ensureCapacityInternal_d00df_18 rfl 1 rfl ?_
    refine ts_sbgV C q_413 dJ5_ensureCapacityInternal_d00df_19 (fun q3 => ?_)
    refine ts_aload_n C dJ5_ensureCapacityInternal_d00df_22 rfl 1 rfl ?_
    refine ts_iload_n C dJ5_ensureCapacityInternal_d00df_23 rfl 2 rfl ?_
    refine ts_callBi C [ts_v p1] (mJ5_newCapacity_0f7a4 hl) kbJ5_newCapacity_0f7a4 q_689 rfl rfl (Nat.le_of_ble_eq_true rfl) ⟨Nat.le_of_ble_eq_true rfl, Nat.le_of_ble_eq_true rfl⟩ ⟨Nat.le_of_ble_eq_true rfl, Nat.le_of_ble_eq_true rfl⟩ dJ5_ensureCapacityInternal_d00df_24 (fun r5 M4 => ?_)
    refine ts_aload_n C dJ5_ensureCapacityInternal_d00df_27 rfl 1 rfl ?_
    refine ts_sbgc C q_414 dJ5_ensureCapacityInternal_d00df_28 ?_
    refine ts_ishl C dJ5_ensureCapacityInternal_d00df_31 ?_
    refine ts_callSq C [.ref (Int.toNat q3), ts_v (ts_shl r5 0)] (mJ7_copyOf_9075b hl) kJ7_copyOf_9075b q_702 rfl rfl (Nat.le_of_ble_eq_true rfl) ⟨Nat.le_of_ble_eq_true rfl, Nat.le_of_ble_eq_true rfl⟩ ⟨Nat.le_of_ble_eq_true rfl, Nat.le_of_ble_eq_true rfl⟩ dJ5_ensureCapacityInternal_d00df_32 (fun r7 M6 => ?_)
    refine ts_sbpV C q_413 dJ5_ensureCapacityInternal_d00df_35 (fun M8 => ?_)
    exact ts_sub [] rfl (H38 _)
def wX11_outputAt_B15   (Q : Int → ts_M → Prop) (X : String → ts_M → Prop)   (M : ts_M) : Prop :=
  X "java/lang/IndexOutOfBoundsException" M
def wX11_outputAt (p1 : Int) (Q : Int → ts_M → Prop) (X : String → ts_M → Prop) (M : ts_M) : Prop :=
  ((ts_w p1 < 0 → wX11_outputAt_B15 Q X M) ∧ (¬ (ts_w p1 < 0) → (wJ4_length_8abf5  (fun r2 M1 => ((ts_w p1 < ts_w r2 → (wJ4_charAt_5068e p1 (fun r4 M3 => ((0 ≤ ts_w r4 ∧ ts_w r4 < 65536) ∧ Q r4 M3)) M1)) ∧ (¬ (ts_w p1 < ts_w r2) → wX11_outputAt_B15 Q X M1))) M)))
set_option maxRecDepth 100000 in
set_option maxHeartbeats 4000000 in
theorem mX11_outputAt {l : Launch} {g : ts_W} (hl : l.stackTraces = false) {p1 : Int} {Q : Int → ts_M → Prop} {X : String → ts_M → Prop} {M : ts_M} : wX11_outputAt p1 Q X M → ts_ConX l g yX11_outputAt cX11_outputAt 2 (some .char) 6 1 6 [.ref (ts_ad g 154), ts_v p1] M (ts_Ri Q) X := by
  intro h0
  refine ts_ConX.of hl (by decide) (Nat.le_of_ble_eq_true rfl) ?_
  intro p e s m args below meth c hx C
  have H15 : ∀  (M : ts_M), wX11_outputAt_B15   Q X  M → ts_V p l e (ts_rm 6 1 6) s m args below meth c g 2 0 0 (vx_MQ below (ts_Q g (ts_Ri Q)) (ts_X g X) args s 1 6 (ts_A g)) 15 [] [] M := by
    intro   M
    unfold wX11_outputAt_B15
    exact ts_thrW (text := "the output text has no such index") (sx := 218) (names := ["java/lang/RuntimeException", "java/lang/Exception"]) C hx egIO_ok enIO_ok eaIO eoIO q_1200 q_142 (by decide) (by decide +kernel) (by decide +kernel) dX11_outputAt_15 dX11_outputAt_18 dX11_outputAt_19 dX11_outputAt_22 dX11_outputAt_25 (Nat.le_of_ble_eq_true rfl) (Nat.le_of_ble_eq_true rfl) (Nat.le_of_ble_eq_true rfl) (Nat.le_of_ble_eq_true rfl) (Nat.le_of_ble_eq_true rfl) (Nat.le_of_ble_eq_true rfl)
  revert h0
  unfold wX11_outputAt
  have hl0 : lv_args 0 [.ref (ts_ad g 154), ts_v p1] = [(0, .ref (ts_ad g 154)), (1, ts_v p1)] := rfl
  rw [hl0]
  refine ts_iload_n C dX11_outputAt_0 rfl 1 rfl ?_
  refine ts_cm0_lt C rfl 15 dX11_outputAt_1 rfl ?_ ?_
  · exact ts_sub [] rfl (H15 _)
  · refine ts_iload_n C dX11_outputAt_4 rfl 1 rfl ?_
    refine ts_aload_n C dX11_outputAt_5 rfl 0 rfl ?_
    refine tgX11_6 C q_434 dX11_outputAt_6 ?_
    refine ts_callBi C [] (mJ4_length_8abf5 hl) kbJ4_length_8abf5 q_1053 rfl rfl (Nat.le_of_ble_eq_true rfl) ⟨Nat.le_of_ble_eq_true rfl, Nat.le_of_ble_eq_true rfl⟩ ⟨Nat.le_of_ble_eq_true rfl, Nat.le_of_ble_eq_true rfl⟩ dX11_outputAt_9 (fun r2 M1 => ?_)
    refine ts_cmp_lt C rfl rfl 26 dX11_outputAt_12 rfl ?_ ?_
    · refine ts_aload_n C dX11_outputAt_26 rfl 0 rfl ?_
      refine tgX11_6 C q_434 dX11_outputAt_27 ?_
      refine ts_iload_n C dX11_outputAt_30 rfl 1 rfl ?_
      refine ts_callBi C [ts_v p1] (mJ4_charAt_5068e hl) kbJ4_charAt_5068e q_1821 rfl rfl (Nat.le_of_ble_eq_true rfl) ⟨Nat.le_of_ble_eq_true rfl, Nat.le_of_ble_eq_true rfl⟩ ⟨Nat.le_of_ble_eq_true rfl, Nat.le_of_ble_eq_true rfl⟩ dX11_outputAt_31 (fun r4 M3 => ?_)
      exact ts_xr (ts_creti C (Nat.le_of_ble_eq_true rfl) (Nat.le_of_ble_eq_true rfl) dX11_outputAt_34)
    · exact ts_sub [] rfl (H15 _)
def wJ5_setLength_d00df_B76   (Q : ts_M → Prop)  (y1 : Int) (M : ts_M) : Prop :=
  (∀ M2, M2 = ts_si M 177 0 y1 → Q M2)
def wJ5_setLength_d00df (p1 : Int) (Q : ts_M → Prop) (M : ts_M) : Prop :=
  ((0 ≤ ts_w p1 → (wJ5_ensureCapacityInternal_d00df p1 (fun M1 => ((ts_w p1 ≤ ts_w (M1.1 177 0) → ((ts_w (M1.1 177 0) ≤ ts_w p1 → wJ5_setLength_d00df_B76 Q p1 M1) ∧ (¬ (ts_w (M1.1 177 0) ≤ ts_w p1) → (∀ M3, M3 = ts_si M1 177 1 1 → wJ5_setLength_d00df_B76 Q p1 M3)))) ∧ (¬ (ts_w p1 ≤ ts_w (M1.1 177 0)) → (wJ5_isLatin1_aae02  (fun r5 M4 => ((ts_w r5 = 0 → False) ∧ (¬ (ts_w r5 = 0) → False))) M1)))) M)) ∧ (¬ (0 ≤ ts_w p1) → False))
set_option maxRecDepth 100000 in
set_option maxHeartbeats 4000000 in
theorem mJ5_setLength_d00df {l : Launch} {g : ts_W} (hl : l.stackTraces = false) {p1 : Int} {Q : ts_M → Prop} {M : ts_M} : wJ5_setLength_d00df p1 Q M → ts_Con l g yJ5_setLength_d00df cJ5_setLength_d00df 2 none 4 1 70 [.ref (ts_ad g 177), ts_v p1] M (ts_Rv Q) := by
  intro h0
  refine ts_Con.of hl (by decide) (Nat.le_of_ble_eq_true rfl) ?_
  intro p e s m args below meth c C
  have H76 : ∀ (y1 : Int) (M : ts_M), wJ5_setLength_d00df_B76   Q y1 M → ts_V p l e (ts_rm 4 1 70) s m args below meth c g 2 1 70 (MQ below (ts_Q g (ts_Rv Q)) args s 1 70 (ts_A g)) 76 [(0, .ref (ts_ad g 177)), (1, ts_v y1)] [] M := by
    intro  y1 M
    unfold wJ5_setLength_d00df_B76
    refine ts_aload_n C dJ5_setLength_d00df_76 rfl 0 rfl ?_
    refine ts_iload_n C dJ5_setLength_d00df_77 rfl 1 rfl ?_
    refine ts_sbpn C q_417 dJ5_setLength_d00df_78 (fun M2 => ?_)
    exact ts_vreti C (Nat.le_of_ble_eq_true rfl) (Nat.le_of_ble_eq_true rfl) dJ5_setLength_d00df_81
  revert h0
  unfold wJ5_setLength_d00df
  have hl0 : lv_args 0 [.ref (ts_ad g 177), ts_v p1] = [(0, .ref (ts_ad g 177)), (1, ts_v p1)] := rfl
  rw [hl0]
  refine ts_iload_n C dJ5_setLength_d00df_0 rfl 1 rfl ?_
  refine ts_cm0_ge C rfl 13 dJ5_setLength_d00df_1 rfl ?_ ?_
  · refine ts_aload_n C dJ5_setLength_d00df_13 rfl 0 rfl ?_
    refine ts_iload_n C dJ5_setLength_d00df_14 rfl 1 rfl ?_
    refine ts_callBv C [ts_v p1] (mJ5_ensureCapacityInternal_d00df hl) kbJ5_ensureCapacityInternal_d00df q_685 rfl rfl (Nat.le_of_ble_eq_true rfl) ⟨Nat.le_of_ble_eq_true rfl, Nat.le_of_ble_eq_true rfl⟩ ⟨Nat.le_of_ble_eq_true rfl, Nat.le_of_ble_eq_true rfl⟩ dJ5_setLength_d00df_15 (fun M1 => ?_)
    refine ts_aload_n C dJ5_setLength_d00df_18 rfl 0 rfl ?_
    refine ts_sbgn C q_417 dJ5_setLength_d00df_19 ?_
    refine ts_iload_n C dJ5_setLength_d00df_22 rfl 1 rfl ?_
    refine ts_cmp_ge C rfl rfl 63 dJ5_setLength_d00df_23 rfl ?_ ?_
    · refine ts_aload_n C dJ5_setLength_d00df_63 rfl 0 rfl ?_
      refine ts_sbgn C q_417 dJ5_setLength_d00df_64 ?_
      refine ts_iload_n C dJ5_setLength_d00df_67 rfl 1 rfl ?_
      refine ts_cmp_le C rfl rfl 76 dJ5_setLength_d00df_68 rfl ?_ ?_
      · exact ts_sub [0, 1] rfl (H76 _ _)
      · refine ts_aload_n C dJ5_setLength_d00df_71 rfl 0 rfl ?_
        refine ts_iconst C dJ5_setLength_d00df_72 1 rfl ?_
        refine ts_sbpm C (by decide) q_415 dJ5_setLength_d00df_73 (fun M3 => ?_)
        exact ts_sub [0, 1] rfl (H76 _ _)
    · refine ts_aload_n C dJ5_setLength_d00df_26 rfl 0 rfl ?_
      refine ts_callBi C [] (mJ5_isLatin1_aae02 hl) kbJ5_isLatin1_aae02 q_716 rfl rfl (Nat.le_of_ble_eq_true rfl) ⟨Nat.le_of_ble_eq_true rfl, Nat.le_of_ble_eq_true rfl⟩ ⟨Nat.le_of_ble_eq_true rfl, Nat.le_of_ble_eq_true rfl⟩ dJ5_setLength_d00df_27 (fun r5 M4 => ?_)
      refine ts_cm0_eq C rfl 48 dJ5_setLength_d00df_30 rfl ?_ ?_
      · exact fun h => h.elim
      · exact fun h => h.elim
  · exact fun h => h.elim
def wJ5_append_3fe6f_B45   (Q : ts_M → Prop)  (y1 : Int) (M : ts_M) : Prop :=
  (wJ5_isLatin1_aae02  (fun r5 M4 => ((ts_w r5 = 0 → False) ∧ (¬ (ts_w r5 = 0) → False))) M)
def wJ5_append_3fe6f_B75   (Q : ts_M → Prop)   (M : ts_M) : Prop :=
  Q M
def wJ5_append_3fe6f (p1 : Int) (Q : ts_M → Prop) (M : ts_M) : Prop :=
  (wJ5_ensureCapacityInternal_d00df ((M.1 177 0) + 1) (fun M1 => (wJ5_isLatin1_aae02  (fun r3 M2 => ((ts_w r3 = 0 → wJ5_append_3fe6f_B45 Q p1 M2) ∧ (¬ (ts_w r3 = 0) → (wJ1_canEncode_fc78d p1 (fun r9 M8 => ((ts_w r9 = 0 → wJ5_append_3fe6f_B45 Q p1 M8) ∧ (¬ (ts_w r9 = 0) → (∀ q10 : Int, q10 = M8.1 177 3 → (∀ M11, M11 = ts_si M8 177 0 ((M8.1 177 0) + 1) → ((q10 = M11.1 177 3 ∧ 0 ≤ ts_w (M8.1 177 0) ∧ ts_w (M8.1 177 0) < M11.1 177 2) ∧ ∀ M12, M12 = ts_si M11 178 (ts_w (M8.1 177 0)) (ts_nar .byte (ts_i2b p1)) → wJ5_append_3fe6f_B75 Q M12)))))) M2)))) M1)) M)
set_option maxRecDepth 100000 in
set_option maxHeartbeats 4000000 in
theorem mJ5_append_3fe6f {l : Launch} {g : ts_W} (hl : l.stackTraces = false) {p1 : Int} {Q : ts_M → Prop} {M : ts_M} : wJ5_append_3fe6f p1 Q M → ts_Con l g yJ5_append_3fe6f cJ5_append_3fe6f 2 (some (.object "java/lang/AbstractStringBuilder")) 4 1 70 [.ref (ts_ad g 177), ts_v p1] M (ts_Rb g Q) := by
  intro h0
  refine ts_Con.of hl (by decide) (Nat.le_of_ble_eq_true rfl) ?_
  intro p e s m args below meth c C
  have H45 : ∀ (y1 : Int) (M : ts_M), wJ5_append_3fe6f_B45   Q y1 M → ts_V p l e (ts_rm 4 1 70) s m args below meth c g 2 1 70 (MQ below (ts_Q g (ts_Rb g Q)) args s 1 70 (ts_A g)) 45 [(0, .ref (ts_ad g 177)), (1, ts_v y1)] [] M := by
    intro  y1 M
    unfold wJ5_append_3fe6f_B45
    refine ts_aload_n C dJ5_append_3fe6f_45 rfl 0 rfl ?_
    refine ts_callBi C [] (mJ5_isLatin1_aae02 hl) kbJ5_isLatin1_aae02 q_716 rfl rfl (Nat.le_of_ble_eq_true rfl) ⟨Nat.le_of_ble_eq_true rfl, Nat.le_of_ble_eq_true rfl⟩ ⟨Nat.le_of_ble_eq_true rfl, Nat.le_of_ble_eq_true rfl⟩ dJ5_append_3fe6f_46 (fun r5 M4 => ?_)
    refine ts_cm0_eq C rfl 56 dJ5_append_3fe6f_49 rfl ?_ ?_
    · exact fun h => h.elim
    · exact fun h => h.elim
  have H75 : ∀  (M : ts_M), wJ5_append_3fe6f_B75   Q  M → ts_V p l e (ts_rm 4 1 70) s m args below meth c g 2 1 70 (MQ below (ts_Q g (ts_Rb g Q)) args s 1 70 (ts_A g)) 75 [(0, .ref (ts_ad g 177))] [] M := by
    intro   M
    unfold wJ5_append_3fe6f_B75
    refine ts_aload_n C dJ5_append_3fe6f_75 rfl 0 rfl ?_
    exact ts_bbreti C (Nat.le_of_ble_eq_true rfl) (Nat.le_of_ble_eq_true rfl) dJ5_append_3fe6f_76
  revert h0
  unfold wJ5_append_3fe6f
  have hl0 : lv_args 0 [.ref (ts_ad g 177), ts_v p1] = [(0, .ref (ts_ad g 177)), (1, ts_v p1)] := rfl
  rw [hl0]
  refine ts_aload_n C dJ5_append_3fe6f_0 rfl 0 rfl ?_
  refine ts_aload_n C dJ5_append_3fe6f_1 rfl 0 rfl ?_
  refine ts_sbgn C q_417 dJ5_append_3fe6f_2 ?_
  refine ts_iconst C dJ5_append_3fe6f_5 1 rfl ?_
  refine ts_iadd C dJ5_append_3fe6f_6 ?_
  refine ts_callBv C [ts_v ((M.1 177 0) + 1)] (mJ5_ensureCapacityInternal_d00df hl) kbJ5_ensureCapacityInternal_d00df q_685 rfl rfl (Nat.le_of_ble_eq_true rfl) ⟨Nat.le_of_ble_eq_true rfl, Nat.le_of_ble_eq_true rfl⟩ ⟨Nat.le_of_ble_eq_true rfl, Nat.le_of_ble_eq_true rfl⟩ dJ5_append_3fe6f_7 (fun M1 => ?_)
  refine ts_aload_n C dJ5_append_3fe6f_10 rfl 0 rfl ?_
  refine ts_callBi C [] (mJ5_isLatin1_aae02 hl) kbJ5_isLatin1_aae02 q_716 rfl rfl (Nat.le_of_ble_eq_true rfl) ⟨Nat.le_of_ble_eq_true rfl, Nat.le_of_ble_eq_true rfl⟩ ⟨Nat.le_of_ble_eq_true rfl, Nat.le_of_ble_eq_true rfl⟩ dJ5_append_3fe6f_11 (fun r3 M2 => ?_)
  refine ts_cm0_eq C rfl 45 dJ5_append_3fe6f_14 rfl ?_ ?_
  · exact ts_sub [0, 1] rfl (H45 _ _)
  · refine ts_iload_n C dJ5_append_3fe6f_17 rfl 1 rfl ?_
    refine ts_callSi C [ts_v p1] (mJ1_canEncode_fc78d hl) kJ1_canEncode_fc78d q_1045 rfl rfl (Nat.le_of_ble_eq_true rfl) ⟨Nat.le_of_ble_eq_true rfl, Nat.le_of_ble_eq_true rfl⟩ ⟨Nat.le_of_ble_eq_true rfl, Nat.le_of_ble_eq_true rfl⟩ dJ5_append_3fe6f_18 (fun r9 M8 => ?_)
    refine ts_cm0_eq C rfl 45 dJ5_append_3fe6f_21 rfl ?_ ?_
    · exact ts_sub [0, 1] rfl (H45 _ _)
    · refine ts_aload_n C dJ5_append_3fe6f_24 rfl 0 rfl ?_
      refine ts_sbgV C q_413 dJ5_append_3fe6f_25 (fun q10 => ?_)
      refine ts_aload_n C dJ5_append_3fe6f_28 rfl 0 rfl ?_
      refine ts_dup C dJ5_append_3fe6f_29 rfl ?_
      refine ts_sbgn C q_417 dJ5_append_3fe6f_30 ?_
      refine ts_dup_x1 C dJ5_append_3fe6f_33 rfl rfl ?_
      refine ts_iconst C dJ5_append_3fe6f_34 1 rfl ?_
      refine ts_iadd C dJ5_append_3fe6f_35 ?_
      refine ts_sbpn C q_417 dJ5_append_3fe6f_36 (fun M11 => ?_)
      refine ts_iload_n C dJ5_append_3fe6f_39 rfl 1 rfl ?_
      refine ts_i2b0 C dJ5_append_3fe6f_40 ?_
      refine ts_vst C dJ5_append_3fe6f_41 (fun M12 => ?_)
      refine ts_goto C 75 dJ5_append_3fe6f_42 rfl ?_
      exact ts_sub [0] rfl (H75 _)
def wJ5_append_c97b9_B48   (Q : ts_M → Prop)  (y3 : Int) (M : ts_M) : Prop :=
  (∀ M12, M12 = ts_si M 177 0 y3 → Q M12)
def wJ5_append_c97b9 (p1 : Int) (Q : ts_M → Prop) (M : ts_M) : Prop :=
  (∀ x1 : Int, x1 = M.1 177 0 → (wJ6_stringSize_0f7a4 p1 (fun r3 M2 => (∀ x4 : Int, x4 = x1 + r3 → (wJ5_ensureCapacityInternal_d00df x4 (fun M5 => (wJ5_isLatin1_aae02  (fun r7 M6 => ((ts_w r7 = 0 → False) ∧ (¬ (ts_w r7 = 0) → (∀ q9 : Int, q9 = M6.1 177 3 → (wJ6_getChars_ba4f3 p1 x4 q9 (fun r11 M10 => wJ5_append_c97b9_B48 Q x4 M10) M6))))) M5)) M2))) M))
set_option maxRecDepth 100000 in
set_option maxHeartbeats 4000000 in
theorem mJ5_append_c97b9 {l : Launch} {g : ts_W} (hl : l.stackTraces = false) {p1 : Int} {Q : ts_M → Prop} {M : ts_M} : wJ5_append_c97b9 p1 Q M → ts_Con l g yJ5_append_c97b9 cJ5_append_c97b9 4 (some (.object "java/lang/AbstractStringBuilder")) 4 1 70 [.ref (ts_ad g 177), ts_v p1] M (ts_Rb g Q) := by
  intro h0
  refine ts_Con.of hl (by decide) (Nat.le_of_ble_eq_true rfl) ?_
  intro p e s m args below meth c C
  have H48 : ∀ (y3 : Int) (M : ts_M), wJ5_append_c97b9_B48   Q y3 M → ts_V p l e (ts_rm 4 1 70) s m args below meth c g 4 1 70 (MQ below (ts_Q g (ts_Rb g Q)) args s 1 70 (ts_A g)) 48 [(0, .ref (ts_ad g 177)), (3, ts_v y3)] [] M := by
    intro  y3 M
    unfold wJ5_append_c97b9_B48
    refine ts_aload_n C dJ5_append_c97b9_48 rfl 0 rfl ?_
    refine ts_iload_n C dJ5_append_c97b9_49 rfl 1 rfl ?_
    refine ts_sbpn C q_417 dJ5_append_c97b9_50 (fun M12 => ?_)
    refine ts_aload_n C dJ5_append_c97b9_53 rfl 0 rfl ?_
    exact ts_bbreti C (Nat.le_of_ble_eq_true rfl) (Nat.le_of_ble_eq_true rfl) dJ5_append_c97b9_54
  revert h0
  unfold wJ5_append_c97b9
  have hl0 : lv_args 0 [.ref (ts_ad g 177), ts_v p1] = [(0, .ref (ts_ad g 177)), (1, ts_v p1)] := rfl
  rw [hl0]
  refine ts_aload_n C dJ5_append_c97b9_0 rfl 0 rfl ?_
  refine ts_sbgn C q_417 dJ5_append_c97b9_1 ?_
  refine ts_istore_n C dJ5_append_c97b9_4 rfl (by decide) (lv' := fun x1 => [(2, ts_v x1), (0, .ref (ts_ad g 177)), (1, ts_v p1)]) (fun _ => rfl) (fun x1 => ?_)
  refine ts_iload_n C dJ5_append_c97b9_5 rfl 0 rfl ?_
  refine ts_iload_n C dJ5_append_c97b9_6 rfl 2 rfl ?_
  refine ts_callSi C [ts_v p1] (mJ6_stringSize_0f7a4 hl) kJ6_stringSize_0f7a4 q_797 rfl rfl (Nat.le_of_ble_eq_true rfl) ⟨Nat.le_of_ble_eq_true rfl, Nat.le_of_ble_eq_true rfl⟩ ⟨Nat.le_of_ble_eq_true rfl, Nat.le_of_ble_eq_true rfl⟩ dJ5_append_c97b9_7 (fun r3 M2 => ?_)
  refine ts_iadd C dJ5_append_c97b9_10 ?_
  refine ts_istore_n C dJ5_append_c97b9_11 rfl (by decide) (lv' := fun x4 => [(3, ts_v x4), (2, ts_v x1), (0, .ref (ts_ad g 177)), (1, ts_v p1)]) (fun _ => rfl) (fun x4 => ?_)
  refine ts_aload_n C dJ5_append_c97b9_12 rfl 2 rfl ?_
  refine ts_iload_n C dJ5_append_c97b9_13 rfl 0 rfl ?_
  refine ts_callBv C [ts_v x4] (mJ5_ensureCapacityInternal_d00df hl) kbJ5_ensureCapacityInternal_d00df q_685 rfl rfl (Nat.le_of_ble_eq_true rfl) ⟨Nat.le_of_ble_eq_true rfl, Nat.le_of_ble_eq_true rfl⟩ ⟨Nat.le_of_ble_eq_true rfl, Nat.le_of_ble_eq_true rfl⟩ dJ5_append_c97b9_14 (fun M5 => ?_)
  refine ts_aload_n C dJ5_append_c97b9_17 rfl 2 rfl ?_
  refine ts_callBi C [] (mJ5_isLatin1_aae02 hl) kbJ5_isLatin1_aae02 q_716 rfl rfl (Nat.le_of_ble_eq_true rfl) ⟨Nat.le_of_ble_eq_true rfl, Nat.le_of_ble_eq_true rfl⟩ ⟨Nat.le_of_ble_eq_true rfl, Nat.le_of_ble_eq_true rfl⟩ dJ5_append_c97b9_18 (fun r7 M6 => ?_)
  refine ts_cm0_eq C rfl 37 dJ5_append_c97b9_21 rfl ?_ ?_
  · exact fun h => h.elim
  · refine ts_iload_n C dJ5_append_c97b9_24 rfl 3 rfl ?_
    refine ts_iload_n C dJ5_append_c97b9_25 rfl 0 rfl ?_
    refine ts_aload_n C dJ5_append_c97b9_26 rfl 2 rfl ?_
    refine ts_sbgV C q_413 dJ5_append_c97b9_27 (fun q9 => ?_)
    refine ts_callSi C [ts_v p1, ts_v x4, .ref (Int.toNat q9)] (mJ6_getChars_ba4f3 hl) kJ6_getChars_ba4f3 q_800 rfl rfl (Nat.le_of_ble_eq_true rfl) ⟨Nat.le_of_ble_eq_true rfl, Nat.le_of_ble_eq_true rfl⟩ ⟨Nat.le_of_ble_eq_true rfl, Nat.le_of_ble_eq_true rfl⟩ dJ5_append_c97b9_30 (fun r11 M10 => ?_)
    refine ts_pop C dJ5_append_c97b9_33 rfl ?_
    refine ts_goto C 48 dJ5_append_c97b9_34 rfl ?_
    exact ts_sub [2, 0] rfl (H48 _ _)
def wJ4_setLength_d00df (p1 : Int) (Q : ts_M → Prop) (M : ts_M) : Prop :=
  (wJ5_setLength_d00df p1 (fun M1 => Q M1) M)
set_option maxRecDepth 100000 in
set_option maxHeartbeats 4000000 in
theorem mJ4_setLength_d00df {l : Launch} {g : ts_W} (hl : l.stackTraces = false) {p1 : Int} {Q : ts_M → Prop} {M : ts_M} : wJ4_setLength_d00df p1 Q M → ts_Con l g yJ4_setLength_d00df cJ4_setLength_d00df 2 none 5 1 70 [.ref (ts_ad g 177), ts_v p1] M (ts_Rv Q) := by
  intro h0
  refine ts_Con.of hl (by decide) (Nat.le_of_ble_eq_true rfl) ?_
  intro p e s m args below meth c C
  revert h0
  unfold wJ4_setLength_d00df
  have hl0 : lv_args 0 [.ref (ts_ad g 177), ts_v p1] = [(0, .ref (ts_ad g 177)), (1, ts_v p1)] := rfl
  rw [hl0]
  refine ts_aload_n C dJ4_setLength_d00df_0 rfl 0 rfl ?_
  refine ts_iload_n C dJ4_setLength_d00df_1 rfl 1 rfl ?_
  refine ts_callUv C [ts_v p1] (mJ5_setLength_d00df hl) kuJ5_setLength_d00df q_663 rfl rfl (Nat.le_of_ble_eq_true rfl) ⟨Nat.le_of_ble_eq_true rfl, Nat.le_of_ble_eq_true rfl⟩ ⟨Nat.le_of_ble_eq_true rfl, Nat.le_of_ble_eq_true rfl⟩ dJ4_setLength_d00df_2 (fun M1 => ?_)
  exact ts_vreti C (Nat.le_of_ble_eq_true rfl) (Nat.le_of_ble_eq_true rfl) dJ4_setLength_d00df_5
def wJ4_append_cf468 (p1 : Int) (Q : ts_M → Prop) (M : ts_M) : Prop :=
  (wJ5_append_3fe6f p1 (fun M1 => Q M1) M)
set_option maxRecDepth 100000 in
set_option maxHeartbeats 4000000 in
theorem mJ4_append_cf468 {l : Launch} {g : ts_W} (hl : l.stackTraces = false) {p1 : Int} {Q : ts_M → Prop} {M : ts_M} : wJ4_append_cf468 p1 Q M → ts_Con l g yJ4_append_cf468 cJ4_append_cf468 2 (some (.object "java/lang/StringBuilder")) 5 1 70 [.ref (ts_ad g 177), ts_v p1] M (ts_Rb g Q) := by
  intro h0
  refine ts_Con.of hl (by decide) (Nat.le_of_ble_eq_true rfl) ?_
  intro p e s m args below meth c C
  revert h0
  unfold wJ4_append_cf468
  have hl0 : lv_args 0 [.ref (ts_ad g 177), ts_v p1] = [(0, .ref (ts_ad g 177)), (1, ts_v p1)] := rfl
  rw [hl0]
  refine ts_aload_n C dJ4_append_cf468_0 rfl 0 rfl ?_
  refine ts_iload_n C dJ4_append_cf468_1 rfl 1 rfl ?_
  refine ts_callUb C [ts_v p1] (mJ5_append_3fe6f hl) kuJ5_append_3fe6f q_1042 rfl rfl (Nat.le_of_ble_eq_true rfl) ⟨Nat.le_of_ble_eq_true rfl, Nat.le_of_ble_eq_true rfl⟩ ⟨Nat.le_of_ble_eq_true rfl, Nat.le_of_ble_eq_true rfl⟩ dJ4_append_cf468_2 (fun M1 => ?_)
  refine ts_pop C dJ4_append_cf468_5 rfl ?_
  refine ts_aload_n C dJ4_append_cf468_6 rfl 0 rfl ?_
  exact ts_bbreti C (Nat.le_of_ble_eq_true rfl) (Nat.le_of_ble_eq_true rfl) dJ4_append_cf468_7
def wJ4_append_bf812 (p1 : Int) (Q : ts_M → Prop) (M : ts_M) : Prop :=
  (wJ5_append_c97b9 p1 (fun M1 => Q M1) M)
set_option maxRecDepth 100000 in
set_option maxHeartbeats 4000000 in
theorem mJ4_append_bf812 {l : Launch} {g : ts_W} (hl : l.stackTraces = false) {p1 : Int} {Q : ts_M → Prop} {M : ts_M} : wJ4_append_bf812 p1 Q M → ts_Con l g yJ4_append_bf812 cJ4_append_bf812 2 (some (.object "java/lang/StringBuilder")) 5 1 70 [.ref (ts_ad g 177), ts_v p1] M (ts_Rb g Q) := by
  intro h0
  refine ts_Con.of hl (by decide) (Nat.le_of_ble_eq_true rfl) ?_
  intro p e s m args below meth c C
  revert h0
  unfold wJ4_append_bf812
  have hl0 : lv_args 0 [.ref (ts_ad g 177), ts_v p1] = [(0, .ref (ts_ad g 177)), (1, ts_v p1)] := rfl
  rw [hl0]
  refine ts_aload_n C dJ4_append_bf812_0 rfl 0 rfl ?_
  refine ts_iload_n C dJ4_append_bf812_1 rfl 1 rfl ?_
  refine ts_callUb C [ts_v p1] (mJ5_append_c97b9 hl) kuJ5_append_c97b9 q_794 rfl rfl (Nat.le_of_ble_eq_true rfl) ⟨Nat.le_of_ble_eq_true rfl, Nat.le_of_ble_eq_true rfl⟩ ⟨Nat.le_of_ble_eq_true rfl, Nat.le_of_ble_eq_true rfl⟩ dJ4_append_bf812_2 (fun M1 => ?_)
  refine ts_pop C dJ4_append_bf812_5 rfl ?_
  refine ts_aload_n C dJ4_append_bf812_6 rfl 0 rfl ?_
  exact ts_bbreti C (Nat.le_of_ble_eq_true rfl) (Nat.le_of_ble_eq_true rfl) dJ4_append_bf812_7
def wX11_renderTable_B106   (Q : Int → ts_M → Prop)   (M : ts_M) : Prop :=
  (wJ4_length_8abf5  (fun r4 M3 => Q r4 M3) M)
def wX11_renderTable_B83  (k18 : Int → ts_M → Prop) (Q : Int → ts_M → Prop)  (y2 : Int) (M : ts_M) : Prop :=
  (∀ x13 : Int, x13 = y2 + 1 → k18 x13 M)
def wX11_renderTable_L18   (Q : Int → ts_M → Prop) (k18 : Int → ts_M → Prop) (y2 : Int) (M : ts_M) : Prop :=
  ((ts_w (M.1 9 1) ≤ ts_w y2 → ((ts_w (M.1 9 4) = 0 → wX11_renderTable_B106 Q M) ∧ (¬ (ts_w (M.1 9 4) = 0) → (wJ4_append_cf468 33 (fun M5 => wX11_renderTable_B106 Q M5) M)))) ∧ (¬ (ts_w (M.1 9 1) ≤ ts_w y2) → (wX10_letterAt 0 y2 (fun r7 M6 => (wJ4_append_cf468 r7 (fun M8 => (wX10_rankAt 0 y2 (fun r10 M9 => ((¬ (ts_w r10 = 0) → (wX10_rankAt 0 y2 (fun r12 M11 => ((¬ (ts_w r12 = 1) → wX11_renderTable_B83 k18 Q y2 M11) ∧ (ts_w r12 = 1 → (wJ4_append_bf812 (M11.1 9 3) (fun M14 => wX11_renderTable_B83 k18 Q y2 M14) M11)))) M9)) ∧ (ts_w r10 = 0 → (wJ4_append_bf812 (M9.1 9 2) (fun M15 => wX11_renderTable_B83 k18 Q y2 M15) M9)))) M8)) M6)) M)))
def wX11_renderTable (Q : Int → ts_M → Prop) (M : ts_M) : Prop :=
  (wJ4_setLength_d00df 0 (fun M1 => (∀ x2 : Int, x2 = 0 → ∃ n, n ≤ 6 ∧ ts_lp1 (wX11_renderTable_L18 Q) n x2 M1)) M)
set_option maxRecDepth 100000 in
set_option maxHeartbeats 4000000 in
theorem mX11_renderTable {l : Launch} {g : ts_W} (hl : l.stackTraces = false) {Q : Int → ts_M → Prop} {M : ts_M} : wX11_renderTable Q M → ts_Con l g yX11_renderTable cX11_renderTable 3 (some .int) 6 14 980 [.ref (ts_ad g 154)] M (ts_Ri Q) := by
  intro h0
  refine ts_Con.of hl (by decide) (Nat.le_of_ble_eq_true rfl) ?_
  intro p e s m args below meth c C
  have H106 : ∀  (M : ts_M), wX11_renderTable_B106   Q  M → ts_V p l e (ts_rm 6 14 980) s m args below meth c g 3 14 980 (MQ below (ts_Q g (ts_Ri Q)) args s 14 980 (ts_A g)) 106 [(0, .ref (ts_ad g 154))] [] M := by
    intro   M
    unfold wX11_renderTable_B106
    refine ts_aload_n C dX11_renderTable_106 rfl 0 rfl ?_
    refine tgX11_6 C q_434 dX11_renderTable_107 ?_
    refine ts_callBi C [] (mJ4_length_8abf5 hl) kbJ4_length_8abf5 q_1053 rfl rfl (Nat.le_of_ble_eq_true rfl) ⟨Nat.le_of_ble_eq_true rfl, Nat.le_of_ble_eq_true rfl⟩ ⟨by simp only [ts_rm]; omega, by simp only [ts_rm]; omega⟩ dX11_renderTable_110 (fun r4 M3 => ?_)
    exact ts_ireti C (by omega) (by omega) dX11_renderTable_113
  have H83 : ∀ (n18 : Nat) (hn18 : n18 + 1 ≤ 6) (k18 : Int → ts_M → Prop) (hk18 : ∀ (y2 : Int) (M : ts_M), k18 y2 M → ts_V p l e (ts_rm 6 14 980) s m args below meth c g 3 (1 + (6 - n18) * 2) (70 + (6 - n18) * 140) (MQ below (ts_Q g (ts_Ri Q)) args s 14 980 (ts_A g)) 18 [(0, .ref (ts_ad g 154)), (1, .ref (ts_ad g 9)), (2, ts_v y2)] [] M) (y2 : Int) (M : ts_M), wX11_renderTable_B83  k18 Q y2 M → ts_V p l e (ts_rm 6 14 980) s m args below meth c g 3 (1 + (6 - (n18 + 1)) * 2 + 2) (70 + (6 - (n18 + 1)) * 140 + 140) (MQ below (ts_Q g (ts_Ri Q)) args s 14 980 (ts_A g)) 83 [(0, .ref (ts_ad g 154)), (1, .ref (ts_ad g 9)), (2, ts_v y2)] [] M := by
    intro n18 hn18 k18 hk18 y2 M
    unfold wX11_renderTable_B83
    refine ts_iinc C dX11_renderTable_83 2 rfl (by decide) (lv' := fun x13 => [(2, ts_v x13), (0, .ref (ts_ad g 154)), (1, .ref (ts_ad g 9))]) (fun _ => rfl) (fun x13 => ?_)
    refine ts_goto C 18 dX11_renderTable_86 rfl ?_
    exact ts_wid (by omega) (by omega) (ts_sub [1, 2, 0] rfl (hk18 _ _))
  have H18 : ∀ (n : Nat) (y2 : Int) (M : ts_M), ts_lp1 (wX11_renderTable_L18  Q) n y2 M → n ≤ 6 → ts_V p l e (ts_rm 6 14 980) s m args below meth c g 3 (1 + (6 - n) * 2) (70 + (6 - n) * 140) (MQ below (ts_Q g (ts_Ri Q)) args s 14 980 (ts_A g)) 18 [(0, .ref (ts_ad g 154)), (1, .ref (ts_ad g 9)), (2, ts_v y2)] [] M := by
    refine ts_lprc1 (V := fun (n : Nat) (y2 : Int) (M : ts_M) => n ≤ 6 → ts_V p l e (ts_rm 6 14 980) s m args below meth c g 3 (1 + (6 - n) * 2) (70 + (6 - n) * 140) (MQ below (ts_Q g (ts_Ri Q)) args s 14 980 (ts_A g)) 18 [(0, .ref (ts_ad g 154)), (1, .ref (ts_ad g 9)), (2, ts_v y2)] [] M) ?_
    intro n18 k18 hk0 y2 M h0 hn18
    have hk18 : ∀ (y2 : Int) (M : ts_M), k18 y2 M → ts_V p l e (ts_rm 6 14 980) s m args below meth c g 3 (1 + (6 - n18) * 2) (70 + (6 - n18) * 140) (MQ below (ts_Q g (ts_Ri Q)) args s 14 980 (ts_A g)) 18 [(0, .ref (ts_ad g 154)), (1, .ref (ts_ad g 9)), (2, ts_v y2)] [] M := fun y2 M h => hk0 _ M h (by omega)
    revert h0
    unfold wX11_renderTable_L18
    refine ts_iload_n C dX11_renderTable_18 rfl 2 rfl ?_
    refine ts_aload_n C dX11_renderTable_19 rfl 1 rfl ?_
    refine tgX10_1 ts_iS0 C q_249 dX11_renderTable_20 ?_
    refine ts_cmp_ge C rfl rfl 89 dX11_renderTable_23 rfl ?_ ?_
    · refine ts_aload_n C dX11_renderTable_89 rfl 1 rfl ?_
      refine tgX10_4 ts_iS0 C q_258 dX11_renderTable_90 ?_
      refine ts_cm0_eq C rfl 106 dX11_renderTable_93 rfl ?_ ?_
      · exact ts_wid (by omega) (by omega) (ts_sub [0] rfl (H106 _))
      · refine ts_aload_n C dX11_renderTable_96 rfl 0 rfl ?_
        refine tgX11_6 C q_434 dX11_renderTable_97 ?_
        refine ts_bipush C dX11_renderTable_100 33 tb_33 ?_
        refine ts_callBb C [ts_v 33] (mJ4_append_cf468 hl) kbJ4_append_cf468 q_1038 rfl rfl (Nat.le_of_ble_eq_true rfl) ⟨Nat.le_of_ble_eq_true rfl, Nat.le_of_ble_eq_true rfl⟩ ⟨by simp only [ts_rm]; omega, by simp only [ts_rm]; omega⟩ dX11_renderTable_102 (fun M5 => ?_)
        refine ts_pop C dX11_renderTable_105 rfl ?_
        exact ts_wid (by omega) (by omega) (ts_sub [0] rfl (H106 _))
    · refine ts_aload_n C dX11_renderTable_26 rfl 0 rfl ?_
      refine tgX11_6 C q_434 dX11_renderTable_27 ?_
      refine ts_aload_n C dX11_renderTable_30 rfl 1 rfl ?_
      refine ts_iload_n C dX11_renderTable_31 rfl 2 rfl ?_
      refine ts_callVi C [ts_v y2] (mX10_letterAt hl ts_iS0) kX10_letterAt q_1002 (ts_lt ts_iS0 9 (by decide)) (shX10 ts_iS0) rfl rfl rfl (Nat.le_of_ble_eq_true rfl) ⟨Nat.le_of_ble_eq_true rfl, Nat.le_of_ble_eq_true rfl⟩ ⟨by simp only [ts_rm]; omega, by simp only [ts_rm]; omega⟩ dX11_renderTable_32 (fun r7 M6 => ?_)
      refine ts_callBb C [ts_v r7] (mJ4_append_cf468 hl) kbJ4_append_cf468 q_1038 rfl rfl (Nat.le_of_ble_eq_true rfl) ⟨Nat.le_of_ble_eq_true rfl, Nat.le_of_ble_eq_true rfl⟩ ⟨by simp only [ts_rm]; omega, by simp only [ts_rm]; omega⟩ dX11_renderTable_35 (fun M8 => ?_)
      refine ts_pop C dX11_renderTable_38 rfl ?_
      refine ts_aload_n C dX11_renderTable_39 rfl 1 rfl ?_
      refine ts_iload_n C dX11_renderTable_40 rfl 2 rfl ?_
      refine ts_callVi C [ts_v y2] (mX10_rankAt hl ts_iS0) kX10_rankAt q_1051 (ts_lt ts_iS0 9 (by decide)) (shX10 ts_iS0) rfl rfl rfl (Nat.le_of_ble_eq_true rfl) ⟨Nat.le_of_ble_eq_true rfl, Nat.le_of_ble_eq_true rfl⟩ ⟨by simp only [ts_rm]; omega, by simp only [ts_rm]; omega⟩ dX11_renderTable_41 (fun r10 M9 => ?_)
      refine ts_cm0_ne C rfl 62 dX11_renderTable_44 rfl ?_ ?_
      · refine ts_aload_n C dX11_renderTable_62 rfl 1 rfl ?_
        refine ts_iload_n C dX11_renderTable_63 rfl 2 rfl ?_
        refine ts_callVi C [ts_v y2] (mX10_rankAt hl ts_iS0) kX10_rankAt q_1051 (ts_lt ts_iS0 9 (by decide)) (shX10 ts_iS0) rfl rfl rfl (Nat.le_of_ble_eq_true rfl) ⟨Nat.le_of_ble_eq_true rfl, Nat.le_of_ble_eq_true rfl⟩ ⟨by simp only [ts_rm]; omega, by simp only [ts_rm]; omega⟩ dX11_renderTable_64 (fun r12 M11 => ?_)
        refine ts_iconst C dX11_renderTable_67 1 rfl ?_
        refine ts_cmp_ne C rfl tw_1 83 dX11_renderTable_68 rfl ?_ ?_
        · exact ts_wid (by omega) (by omega) (ts_sub [0, 1, 2] rfl (H83 n18 hn18 k18 hk18 _ _))
        · refine ts_aload_n C dX11_renderTable_71 rfl 0 rfl ?_
          refine tgX11_6 C q_434 dX11_renderTable_72 ?_
          refine ts_aload_n C dX11_renderTable_75 rfl 1 rfl ?_
          refine tgX10_3 ts_iS0 C q_255 dX11_renderTable_76 ?_
          refine ts_callBb C [ts_v (M11.1 9 3)] (mJ4_append_bf812 hl) kbJ4_append_bf812 q_1052 rfl rfl (Nat.le_of_ble_eq_true rfl) ⟨Nat.le_of_ble_eq_true rfl, Nat.le_of_ble_eq_true rfl⟩ ⟨by simp only [ts_rm]; omega, by simp only [ts_rm]; omega⟩ dX11_renderTable_79 (fun M14 => ?_)
          refine ts_pop C dX11_renderTable_82 rfl ?_
          exact ts_wid (by omega) (by omega) (ts_sub [0, 1, 2] rfl (H83 n18 hn18 k18 hk18 _ _))
      · refine ts_aload_n C dX11_renderTable_47 rfl 0 rfl ?_
        refine tgX11_6 C q_434 dX11_renderTable_48 ?_
        refine ts_aload_n C dX11_renderTable_51 rfl 1 rfl ?_
        refine tgX10_2 ts_iS0 C q_252 dX11_renderTable_52 ?_
        refine ts_callBb C [ts_v (M9.1 9 2)] (mJ4_append_bf812 hl) kbJ4_append_bf812 q_1052 rfl rfl (Nat.le_of_ble_eq_true rfl) ⟨Nat.le_of_ble_eq_true rfl, Nat.le_of_ble_eq_true rfl⟩ ⟨by simp only [ts_rm]; omega, by simp only [ts_rm]; omega⟩ dX11_renderTable_55 (fun M15 => ?_)
        refine ts_pop C dX11_renderTable_58 rfl ?_
        refine ts_goto C 83 dX11_renderTable_59 rfl ?_
        exact ts_wid (by omega) (by omega) (ts_sub [0, 1, 2] rfl (H83 n18 hn18 k18 hk18 _ _))
  revert h0
  unfold wX11_renderTable
  have hl0 : lv_args 0 [.ref (ts_ad g 154)] = [(0, .ref (ts_ad g 154))] := rfl
  rw [hl0]
  refine ts_aload_n C dX11_renderTable_0 rfl 0 rfl ?_
  refine tgX11_6 C q_434 dX11_renderTable_1 ?_
  refine ts_iconst C dX11_renderTable_4 0 rfl ?_
  refine ts_callBv C [ts_v 0] (mJ4_setLength_d00df hl) kbJ4_setLength_d00df q_659 rfl rfl (Nat.le_of_ble_eq_true rfl) ⟨Nat.le_of_ble_eq_true rfl, Nat.le_of_ble_eq_true rfl⟩ ⟨by simp only [ts_rm]; omega, by simp only [ts_rm]; omega⟩ dX11_renderTable_5 (fun M1 => ?_)
  refine ts_aload_n C dX11_renderTable_8 rfl 0 rfl ?_
  refine tgX11_0 C q_428 dX11_renderTable_9 ?_
  refine tgX9_2 ts_iS0 C q_296 dX11_renderTable_12 ?_
  refine ts_astore_n C dX11_renderTable_15 rfl (by decide) (lv' := [(1, .ref (ts_ad g 9)), (0, .ref (ts_ad g 154))]) rfl ?_
  refine ts_iconst C dX11_renderTable_16 0 rfl ?_
  refine ts_istore_n C dX11_renderTable_17 rfl (by decide) (lv' := fun x2 => [(2, ts_v x2), (1, .ref (ts_ad g 9)), (0, .ref (ts_ad g 154))]) (fun _ => rfl) (fun x2 => ?_)
  rintro ⟨n, hnL, hn⟩
  exact ts_wid (by omega) (by omega) (ts_sub [2, 1, 0] rfl (fun h => H18 n _ _ h hnL)) hn
def wX11_renderList_B40  (k18 : Int → ts_M → Prop) (Q : Int → ts_M → Prop)  (y2 : Int) (M : ts_M) : Prop :=
  ((0 ≤ ts_w y2 ∧ ts_w y2 < ((6 : Nat) : Int)) ∧ (wJ4_append_bf812 (M.1 7 (ts_w y2)) (fun M5 => (wJ4_append_cf468 64 (fun M6 => ((0 ≤ ts_w y2 ∧ ts_w y2 < ((6 : Nat) : Int)) ∧ (wJ4_append_bf812 (M6.1 8 (ts_w y2)) (fun M7 => (∀ x8 : Int, x8 = y2 + 1 → k18 x8 M7)) M6))) M5)) M))
def wX11_renderList_L18   (Q : Int → ts_M → Prop) (k18 : Int → ts_M → Prop) (y2 : Int) (M : ts_M) : Prop :=
  ((ts_w (M.1 6 2) ≤ ts_w y2 → (wJ4_length_8abf5  (fun r4 M3 => Q r4 M3) M)) ∧ (¬ (ts_w (M.1 6 2) ≤ ts_w y2) → ((ts_w y2 ≤ 0 → wX11_renderList_B40 k18 Q y2 M) ∧ (¬ (ts_w y2 ≤ 0) → (wJ4_append_cf468 44 (fun M9 => wX11_renderList_B40 k18 Q y2 M9) M)))))
def wX11_renderList (Q : Int → ts_M → Prop) (M : ts_M) : Prop :=
  (wJ4_setLength_d00df 0 (fun M1 => (∀ x2 : Int, x2 = 0 → ∃ n, n ≤ 7 ∧ ts_lp1 (wX11_renderList_L18 Q) n x2 M1)) M)
set_option maxRecDepth 100000 in
set_option maxHeartbeats 4000000 in
theorem mX11_renderList {l : Launch} {g : ts_W} (hl : l.stackTraces = false) {Q : Int → ts_M → Prop} {M : ts_M} : wX11_renderList Q M → ts_Con l g yX11_renderList cX11_renderList 3 (some .int) 6 30 2100 [.ref (ts_ad g 154)] M (ts_Ri Q) := by
  intro h0
  refine ts_Con.of hl (by decide) (Nat.le_of_ble_eq_true rfl) ?_
  intro p e s m args below meth c C
  have H40 : ∀ (n18 : Nat) (hn18 : n18 + 1 ≤ 7) (k18 : Int → ts_M → Prop) (hk18 : ∀ (y2 : Int) (M : ts_M), k18 y2 M → ts_V p l e (ts_rm 6 30 2100) s m args below meth c g 3 (1 + (7 - n18) * 4) (70 + (7 - n18) * 280) (MQ below (ts_Q g (ts_Ri Q)) args s 30 2100 (ts_A g)) 18 [(0, .ref (ts_ad g 154)), (1, .ref (ts_ad g 6)), (2, ts_v y2)] [] M) (y2 : Int) (M : ts_M), wX11_renderList_B40  k18 Q y2 M → ts_V p l e (ts_rm 6 30 2100) s m args below meth c g 3 (1 + (7 - (n18 + 1)) * 4 + 1) (70 + (7 - (n18 + 1)) * 280 + 70) (MQ below (ts_Q g (ts_Ri Q)) args s 30 2100 (ts_A g)) 40 [(0, .ref (ts_ad g 154)), (1, .ref (ts_ad g 6)), (2, ts_v y2)] [] M := by
    intro n18 hn18 k18 hk18 y2 M
    unfold wX11_renderList_B40
    refine ts_aload_n C dX11_renderList_40 rfl 0 rfl ?_
    refine tgX11_6 C q_434 dX11_renderList_41 ?_
    refine ts_aload_n C dX11_renderList_44 rfl 1 rfl ?_
    refine tgX4_0 ts_iS0 C q_222 dX11_renderList_45 ?_
    refine ts_iload_n C dX11_renderList_48 rfl 2 rfl ?_
    refine ts_iald C (ts_lt ts_iS0 7 (by decide)) (shS7 ts_iS0) dX11_renderList_49 ?_
    refine ts_callBb C [ts_v (M.1 7 (ts_w y2))] (mJ4_append_bf812 hl) kbJ4_append_bf812 q_1052 rfl rfl (Nat.le_of_ble_eq_true rfl) ⟨Nat.le_of_ble_eq_true rfl, Nat.le_of_ble_eq_true rfl⟩ ⟨by simp only [ts_rm]; omega, by simp only [ts_rm]; omega⟩ dX11_renderList_50 (fun M5 => ?_)
    refine ts_pop C dX11_renderList_53 rfl ?_
    refine ts_aload_n C dX11_renderList_54 rfl 0 rfl ?_
    refine tgX11_6 C q_434 dX11_renderList_55 ?_
    refine ts_bipush C dX11_renderList_58 64 tb_64 ?_
    refine ts_callBb C [ts_v 64] (mJ4_append_cf468 hl) kbJ4_append_cf468 q_1038 rfl rfl (Nat.le_of_ble_eq_true rfl) ⟨Nat.le_of_ble_eq_true rfl, Nat.le_of_ble_eq_true rfl⟩ ⟨by simp only [ts_rm]; omega, by simp only [ts_rm]; omega⟩ dX11_renderList_60 (fun M6 => ?_)
    refine ts_pop C dX11_renderList_63 rfl ?_
    refine ts_aload_n C dX11_renderList_64 rfl 0 rfl ?_
    refine tgX11_6 C q_434 dX11_renderList_65 ?_
    refine ts_aload_n C dX11_renderList_68 rfl 1 rfl ?_
    refine tgX4_1 ts_iS0 C q_225 dX11_renderList_69 ?_
    refine ts_iload_n C dX11_renderList_72 rfl 2 rfl ?_
    refine ts_iald C (ts_lt ts_iS0 8 (by decide)) (shS8 ts_iS0) dX11_renderList_73 ?_
    refine ts_callBb C [ts_v (M6.1 8 (ts_w y2))] (mJ4_append_bf812 hl) kbJ4_append_bf812 q_1052 rfl rfl (Nat.le_of_ble_eq_true rfl) ⟨Nat.le_of_ble_eq_true rfl, Nat.le_of_ble_eq_true rfl⟩ ⟨by simp only [ts_rm]; omega, by simp only [ts_rm]; omega⟩ dX11_renderList_74 (fun M7 => ?_)
    refine ts_pop C dX11_renderList_77 rfl ?_
    refine ts_iinc C dX11_renderList_78 2 rfl (by decide) (lv' := fun x8 => [(2, ts_v x8), (0, .ref (ts_ad g 154)), (1, .ref (ts_ad g 6))]) (fun _ => rfl) (fun x8 => ?_)
    refine ts_goto C 18 dX11_renderList_81 rfl ?_
    exact ts_wid (by omega) (by omega) (ts_sub [1, 2, 0] rfl (hk18 _ _))
  have H18 : ∀ (n : Nat) (y2 : Int) (M : ts_M), ts_lp1 (wX11_renderList_L18  Q) n y2 M → n ≤ 7 → ts_V p l e (ts_rm 6 30 2100) s m args below meth c g 3 (1 + (7 - n) * 4) (70 + (7 - n) * 280) (MQ below (ts_Q g (ts_Ri Q)) args s 30 2100 (ts_A g)) 18 [(0, .ref (ts_ad g 154)), (1, .ref (ts_ad g 6)), (2, ts_v y2)] [] M := by
    refine ts_lprc1 (V := fun (n : Nat) (y2 : Int) (M : ts_M) => n ≤ 7 → ts_V p l e (ts_rm 6 30 2100) s m args below meth c g 3 (1 + (7 - n) * 4) (70 + (7 - n) * 280) (MQ below (ts_Q g (ts_Ri Q)) args s 30 2100 (ts_A g)) 18 [(0, .ref (ts_ad g 154)), (1, .ref (ts_ad g 6)), (2, ts_v y2)] [] M) ?_
    intro n18 k18 hk0 y2 M h0 hn18
    have hk18 : ∀ (y2 : Int) (M : ts_M), k18 y2 M → ts_V p l e (ts_rm 6 30 2100) s m args below meth c g 3 (1 + (7 - n18) * 4) (70 + (7 - n18) * 280) (MQ below (ts_Q g (ts_Ri Q)) args s 30 2100 (ts_A g)) 18 [(0, .ref (ts_ad g 154)), (1, .ref (ts_ad g 6)), (2, ts_v y2)] [] M := fun y2 M h => hk0 _ M h (by omega)
    revert h0
    unfold wX11_renderList_L18
    refine ts_iload_n C dX11_renderList_18 rfl 2 rfl ?_
    refine ts_aload_n C dX11_renderList_19 rfl 1 rfl ?_
    refine tgX4_2 ts_iS0 C q_229 dX11_renderList_20 ?_
    refine ts_cmp_ge C rfl rfl 84 dX11_renderList_23 rfl ?_ ?_
    · refine ts_aload_n C dX11_renderList_84 rfl 0 rfl ?_
      refine tgX11_6 C q_434 dX11_renderList_85 ?_
      refine ts_callBi C [] (mJ4_length_8abf5 hl) kbJ4_length_8abf5 q_1053 rfl rfl (Nat.le_of_ble_eq_true rfl) ⟨Nat.le_of_ble_eq_true rfl, Nat.le_of_ble_eq_true rfl⟩ ⟨by simp only [ts_rm]; omega, by simp only [ts_rm]; omega⟩ dX11_renderList_88 (fun r4 M3 => ?_)
      exact ts_ireti C (by omega) (by omega) dX11_renderList_91
    · refine ts_iload_n C dX11_renderList_26 rfl 2 rfl ?_
      refine ts_cm0_le C rfl 40 dX11_renderList_27 rfl ?_ ?_
      · exact ts_wid (by omega) (by omega) (ts_sub [0, 1, 2] rfl (H40 n18 hn18 k18 hk18 _ _))
      · refine ts_aload_n C dX11_renderList_30 rfl 0 rfl ?_
        refine tgX11_6 C q_434 dX11_renderList_31 ?_
        refine ts_bipush C dX11_renderList_34 44 tb_44 ?_
        refine ts_callBb C [ts_v 44] (mJ4_append_cf468 hl) kbJ4_append_cf468 q_1038 rfl rfl (Nat.le_of_ble_eq_true rfl) ⟨Nat.le_of_ble_eq_true rfl, Nat.le_of_ble_eq_true rfl⟩ ⟨by simp only [ts_rm]; omega, by simp only [ts_rm]; omega⟩ dX11_renderList_36 (fun M9 => ?_)
        refine ts_pop C dX11_renderList_39 rfl ?_
        exact ts_sub [0, 1, 2] rfl (H40 n18 hn18 k18 hk18 _ _)
  revert h0
  unfold wX11_renderList
  have hl0 : lv_args 0 [.ref (ts_ad g 154)] = [(0, .ref (ts_ad g 154))] := rfl
  rw [hl0]
  refine ts_aload_n C dX11_renderList_0 rfl 0 rfl ?_
  refine tgX11_6 C q_434 dX11_renderList_1 ?_
  refine ts_iconst C dX11_renderList_4 0 rfl ?_
  refine ts_callBv C [ts_v 0] (mJ4_setLength_d00df hl) kbJ4_setLength_d00df q_659 rfl rfl (Nat.le_of_ble_eq_true rfl) ⟨Nat.le_of_ble_eq_true rfl, Nat.le_of_ble_eq_true rfl⟩ ⟨by simp only [ts_rm]; omega, by simp only [ts_rm]; omega⟩ dX11_renderList_5 (fun M1 => ?_)
  refine ts_aload_n C dX11_renderList_8 rfl 0 rfl ?_
  refine tgX11_0 C q_428 dX11_renderList_9 ?_
  refine tgX9_1 ts_iS0 C q_294 dX11_renderList_12 ?_
  refine ts_astore_n C dX11_renderList_15 rfl (by decide) (lv' := [(1, .ref (ts_ad g 6)), (0, .ref (ts_ad g 154))]) rfl ?_
  refine ts_iconst C dX11_renderList_16 0 rfl ?_
  refine ts_istore_n C dX11_renderList_17 rfl (by decide) (lv' := fun x2 => [(2, ts_v x2), (1, .ref (ts_ad g 6)), (0, .ref (ts_ad g 154))]) (fun _ => rfl) (fun x2 => ?_)
  rintro ⟨n, hnL, hn⟩
  exact ts_wid (by omega) (by omega) (ts_sub [2, 1, 0] rfl (fun h => H18 n _ _ h hnL)) hn
