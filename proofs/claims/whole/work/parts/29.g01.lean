def wX11_adoptedShare (Q : UInt32 → ts_M → Prop) (X : String → ts_M → Prop) (M : ts_M) : Prop :=
  (∀ x1 : Int, x1 = M.1 0 7 → ((¬ (ts_w x1 = 0) → (vf_n32 (FP.fdiv (FP.i2f (ts_I (M.1 0 8))) (FP.i2f (ts_I x1))) ∧ Q (FP.fdiv (FP.i2f (ts_I (M.1 0 8))) (FP.i2f (ts_I x1))) M)) ∧ (ts_w x1 = 0 → X "java/lang/ArithmeticException" M)))
set_option maxRecDepth 100000 in
set_option maxHeartbeats 4000000 in
theorem mX11_adoptedShare {l : Launch} {g : ts_W} (hl : l.stackTraces = false) {Q : UInt32 → ts_M → Prop} {X : String → ts_M → Prop} {M : ts_M} : wX11_adoptedShare Q X M → ts_ConX l g yX11_adoptedShare cX11_adoptedShare 2 (some .float) 6 1 6 [.ref (ts_ad g 154)] M (ts_Rf Q) X := by
  intro h0
  refine ts_ConX.of hl (by decide) (Nat.le_of_ble_eq_true rfl) ?_
  intro p e s m args below meth c hx C
  revert h0
  unfold wX11_adoptedShare
  have hl0 : lv_args 0 [.ref (ts_ad g 154)] = [(0, .ref (ts_ad g 154))] := rfl
  rw [hl0]
  refine ts_aload_n C dX11_adoptedShare_0 rfl 0 rfl ?_
  refine tgX11_0 C q_428 dX11_adoptedShare_1 ?_
  refine tgX9_7 ts_iS0 C q_305 dX11_adoptedShare_4 ?_
  refine ts_istore_n C dX11_adoptedShare_7 rfl (by decide) (lv' := fun x1 => [(1, ts_v x1), (0, .ref (ts_ad g 154))]) (fun _ => rfl) (fun x1 => ?_)
  refine ts_iload_n C dX11_adoptedShare_8 rfl 0 rfl ?_
  refine ts_cm0_ne C rfl 23 dX11_adoptedShare_9 rfl ?_ ?_
  · refine ts_aload_n C dX11_adoptedShare_23 rfl 1 rfl ?_
    refine tgX11_0 C q_428 dX11_adoptedShare_24 ?_
    refine tgX9_8 ts_iS0 C q_307 dX11_adoptedShare_27 ?_
    refine ts_i2f C dX11_adoptedShare_30 ?_
    refine ts_iload_n C dX11_adoptedShare_31 rfl 0 rfl ?_
    refine ts_i2f C dX11_adoptedShare_32 ?_
    refine ts_fdiv C dX11_adoptedShare_33 ?_
    exact ts_xr (ts_freti C (Nat.le_of_ble_eq_true rfl) (Nat.le_of_ble_eq_true rfl) dX11_adoptedShare_34)
  · exact ts_thrW (text := "there was no vote") (sx := 217) (names := ["java/lang/RuntimeException", "java/lang/Exception"]) C hx egAR_ok enAR_ok eaAR eoAR q_1798 q_154 (by decide) (by decide +kernel) (by decide +kernel) dX11_adoptedShare_12 dX11_adoptedShare_15 dX11_adoptedShare_16 dX11_adoptedShare_19 dX11_adoptedShare_22 (Nat.le_of_ble_eq_true rfl) (Nat.le_of_ble_eq_true rfl) (Nat.le_of_ble_eq_true rfl) (Nat.le_of_ble_eq_true rfl) (Nat.le_of_ble_eq_true rfl) (Nat.le_of_ble_eq_true rfl)
def wX11_errorPosition (Q : Int → ts_M → Prop) (X : String → ts_M → Prop) (M : ts_M) : Prop :=
  ((¬ (ts_w (M.1 154 8) = (-1)) → Q (M.1 154 8) M) ∧ (ts_w (M.1 154 8) = (-1) → X "java/util/NoSuchElementException" M))
set_option maxRecDepth 100000 in
set_option maxHeartbeats 4000000 in
theorem mX11_errorPosition {l : Launch} {g : ts_W} (hl : l.stackTraces = false) {Q : Int → ts_M → Prop} {X : String → ts_M → Prop} {M : ts_M} : wX11_errorPosition Q X M → ts_ConX l g yX11_errorPosition cX11_errorPosition 1 (some .int) 6 1 6 [.ref (ts_ad g 154)] M (ts_Ri Q) X := by
  intro h0
  refine ts_ConX.of hl (by decide) (Nat.le_of_ble_eq_true rfl) ?_
  intro p e s m args below meth c hx C
  revert h0
  unfold wX11_errorPosition
  have hl0 : lv_args 0 [.ref (ts_ad g 154)] = [(0, .ref (ts_ad g 154))] := rfl
  rw [hl0]
  refine ts_aload_n C dX11_errorPosition_0 rfl 0 rfl ?_
  refine tgX11_8 C q_436 dX11_errorPosition_1 ?_
  refine ts_iconst C dX11_errorPosition_4 (-1) rfl ?_
  refine ts_cmp_ne C rfl tw_m1 19 dX11_errorPosition_5 rfl ?_ ?_
  · refine ts_aload_n C dX11_errorPosition_19 rfl 0 rfl ?_
    refine tgX11_8 C q_436 dX11_errorPosition_20 ?_
    exact ts_xr (ts_ireti C (Nat.le_of_ble_eq_true rfl) (Nat.le_of_ble_eq_true rfl) dX11_errorPosition_23)
  · exact ts_thrNW (text := "every script had the required form") (sx := 223) (r := ["java/lang/Exception"]) (Y := "java/lang/RuntimeException") (ix := 13) (rx := ts_rx13) C hx egNS_ok enNS_ok eaNS eoNS q_1214 q_143 (by decide) (by decide +kernel) (by decide +kernel) (by decide +kernel) ts_rx13_0 ts_rx13_1 ts_rx13_2 ts_rx13_5 dX11_errorPosition_8 dX11_errorPosition_11 dX11_errorPosition_12 dX11_errorPosition_15 dX11_errorPosition_18 (Nat.le_of_ble_eq_true rfl) (Nat.le_of_ble_eq_true rfl) (Nat.le_of_ble_eq_true rfl) (Nat.le_of_ble_eq_true rfl) (Nat.le_of_ble_eq_true rfl) (Nat.le_of_ble_eq_true rfl)
def wX11_failedCommand (Q : Int → ts_M → Prop) (X : String → ts_M → Prop) (M : ts_M) : Prop :=
  ((¬ (ts_w (M.1 154 9) = (-1)) → Q (M.1 154 9) M) ∧ (ts_w (M.1 154 9) = (-1) → X "java/util/NoSuchElementException" M))
set_option maxRecDepth 100000 in
set_option maxHeartbeats 4000000 in
theorem mX11_failedCommand {l : Launch} {g : ts_W} (hl : l.stackTraces = false) {Q : Int → ts_M → Prop} {X : String → ts_M → Prop} {M : ts_M} : wX11_failedCommand Q X M → ts_ConX l g yX11_failedCommand cX11_failedCommand 1 (some .int) 6 1 6 [.ref (ts_ad g 154)] M (ts_Ri Q) X := by
  intro h0
  refine ts_ConX.of hl (by decide) (Nat.le_of_ble_eq_true rfl) ?_
  intro p e s m args below meth c hx C
  revert h0
  unfold wX11_failedCommand
  have hl0 : lv_args 0 [.ref (ts_ad g 154)] = [(0, .ref (ts_ad g 154))] := rfl
  rw [hl0]
  refine ts_aload_n C dX11_failedCommand_0 rfl 0 rfl ?_
  refine tgX11_9 C q_437 dX11_failedCommand_1 ?_
  refine ts_iconst C dX11_failedCommand_4 (-1) rfl ?_
  refine ts_cmp_ne C rfl tw_m1 19 dX11_failedCommand_5 rfl ?_ ?_
  · refine ts_aload_n C dX11_failedCommand_19 rfl 0 rfl ?_
    refine tgX11_9 C q_437 dX11_failedCommand_20 ?_
    exact ts_xr (ts_ireti C (Nat.le_of_ble_eq_true rfl) (Nat.le_of_ble_eq_true rfl) dX11_failedCommand_23)
  · exact ts_thrNW (text := "no script had a failed command") (sx := 224) (r := ["java/lang/Exception"]) (Y := "java/lang/RuntimeException") (ix := 13) (rx := ts_rx13) C hx egNS_ok enNS_ok eaNS eoNS q_1214 q_143 (by decide) (by decide +kernel) (by decide +kernel) (by decide +kernel) ts_rx13_0 ts_rx13_1 ts_rx13_2 ts_rx13_5 dX11_failedCommand_8 dX11_failedCommand_11 dX11_failedCommand_12 dX11_failedCommand_15 dX11_failedCommand_18 (Nat.le_of_ble_eq_true rfl) (Nat.le_of_ble_eq_true rfl) (Nat.le_of_ble_eq_true rfl) (Nat.le_of_ble_eq_true rfl) (Nat.le_of_ble_eq_true rfl) (Nat.le_of_ble_eq_true rfl)
def wX11_throwIfRefused (p1 : Int) (Q : ts_M → Prop) (X : String → ts_M → Prop) (M : ts_M) : Prop :=
  ((0 ≤ p1 ∧ p1 < 6) ∧ (¬ p1 = 1 → ((0 ≤ p1 ∧ p1 < 6) ∧ (¬ p1 = 2 → ((0 ≤ p1 ∧ p1 < 6) ∧ (¬ p1 = 3 → ((0 ≤ p1 ∧ p1 < 6) ∧ (¬ p1 = 4 → ((0 ≤ p1 ∧ p1 < 6) ∧ (¬ p1 = 5 → Q M) ∧ (p1 = 5 → X "java/lang/UnsupportedOperationException" M))) ∧ (p1 = 4 → X "java/util/NoSuchElementException" M))) ∧ (p1 = 3 → X "java/lang/IndexOutOfBoundsException" M))) ∧ (p1 = 2 → X "java/lang/IllegalStateException" M))) ∧ (p1 = 1 → X "java/lang/IllegalArgumentException" M))
set_option maxRecDepth 100000 in
set_option maxHeartbeats 4000000 in
theorem mX11_throwIfRefused {l : Launch} {g : ts_W} (hl : l.stackTraces = false) {p1 : Int} {Q : ts_M → Prop} {X : String → ts_M → Prop} {M : ts_M} : wX11_throwIfRefused p1 Q X M → ts_ConX l g yX11_throwIfRefused cX11_throwIfRefused 1 none 6 1 6 [ts_rv g p1] M (ts_Rv Q) X := by
  intro h0
  refine ts_ConX.of hl (by decide) (Nat.le_of_ble_eq_true rfl) ?_
  intro p e s m args below meth c hx C
  revert h0
  unfold wX11_throwIfRefused
  have hl0 : lv_args 0 [ts_rv g p1] = [(0, ts_rv g p1)] := rfl
  rw [hl0]
  refine ts_aload_n C dX11_throwIfRefused_0 rfl 0 rfl ?_
  refine ts_getR C 1 (by decide) q_1178 dX11_throwIfRefused_1 ?_
  refine ts_acmp_ne C (by decide) 18 dX11_throwIfRefused_4 rfl ?_ ?_
  · refine ts_aload_n C dX11_throwIfRefused_18 rfl 0 rfl ?_
    refine ts_getR C 2 (by decide) q_1182 dX11_throwIfRefused_19 ?_
    refine ts_acmp_ne C (by decide) 36 dX11_throwIfRefused_22 rfl ?_ ?_
    · refine ts_aload_n C dX11_throwIfRefused_36 rfl 0 rfl ?_
      refine ts_getR C 3 (by decide) q_1199 dX11_throwIfRefused_37 ?_
      refine ts_acmp_ne C (by decide) 54 dX11_throwIfRefused_40 rfl ?_ ?_
      · refine ts_aload_n C dX11_throwIfRefused_54 rfl 0 rfl ?_
        refine ts_getR C 4 (by decide) q_1213 dX11_throwIfRefused_55 ?_
        refine ts_acmp_ne C (by decide) 72 dX11_throwIfRefused_58 rfl ?_ ?_
        · refine ts_aload_n C dX11_throwIfRefused_72 rfl 0 rfl ?_
          refine ts_getR C 5 (by decide) q_1230 dX11_throwIfRefused_73 ?_
          refine ts_acmp_ne C (by decide) 90 dX11_throwIfRefused_76 rfl ?_ ?_
          · exact ts_xr (ts_vreti C (Nat.le_of_ble_eq_true rfl) (Nat.le_of_ble_eq_true rfl) dX11_throwIfRefused_90)
          · exact ts_thrW (text := "this cannot be done now") (sx := 204) (names := ["java/lang/RuntimeException", "java/lang/Exception"]) C hx egUO_ok enUO_ok eaUO eoUO q_1231 q_144 (by decide) (by decide +kernel) (by decide +kernel) dX11_throwIfRefused_79 dX11_throwIfRefused_82 dX11_throwIfRefused_83 dX11_throwIfRefused_86 dX11_throwIfRefused_89 (Nat.le_of_ble_eq_true rfl) (Nat.le_of_ble_eq_true rfl) (Nat.le_of_ble_eq_true rfl) (Nat.le_of_ble_eq_true rfl) (Nat.le_of_ble_eq_true rfl) (Nat.le_of_ble_eq_true rfl)
        · exact ts_thrNW (text := "there is no such proposal or motion") (sx := 203) (r := ["java/lang/Exception"]) (Y := "java/lang/RuntimeException") (ix := 13) (rx := ts_rx13) C hx egNS_ok enNS_ok eaNS eoNS q_1214 q_143 (by decide) (by decide +kernel) (by decide +kernel) (by decide +kernel) ts_rx13_0 ts_rx13_1 ts_rx13_2 ts_rx13_5 dX11_throwIfRefused_61 dX11_throwIfRefused_64 dX11_throwIfRefused_65 dX11_throwIfRefused_68 dX11_throwIfRefused_71 (Nat.le_of_ble_eq_true rfl) (Nat.le_of_ble_eq_true rfl) (Nat.le_of_ble_eq_true rfl) (Nat.le_of_ble_eq_true rfl) (Nat.le_of_ble_eq_true rfl) (Nat.le_of_ble_eq_true rfl)
      · exact ts_thrW (text := "there is no such spoon or cell") (sx := 202) (names := ["java/lang/RuntimeException", "java/lang/Exception"]) C hx egIO_ok enIO_ok eaIO eoIO q_1200 q_142 (by decide) (by decide +kernel) (by decide +kernel) dX11_throwIfRefused_43 dX11_throwIfRefused_46 dX11_throwIfRefused_47 dX11_throwIfRefused_50 dX11_throwIfRefused_53 (Nat.le_of_ble_eq_true rfl) (Nat.le_of_ble_eq_true rfl) (Nat.le_of_ble_eq_true rfl) (Nat.le_of_ble_eq_true rfl) (Nat.le_of_ble_eq_true rfl) (Nat.le_of_ble_eq_true rfl)
    · exact ts_thrW (text := "the state of the salon does not allow this") (sx := 201) (names := ["java/lang/RuntimeException", "java/lang/Exception"]) C hx egIS_ok enIS_ok eaIS eoIS q_1183 q_141 (by decide) (by decide +kernel) (by decide +kernel) dX11_throwIfRefused_25 dX11_throwIfRefused_28 dX11_throwIfRefused_29 dX11_throwIfRefused_32 dX11_throwIfRefused_35 (Nat.le_of_ble_eq_true rfl) (Nat.le_of_ble_eq_true rfl) (Nat.le_of_ble_eq_true rfl) (Nat.le_of_ble_eq_true rfl) (Nat.le_of_ble_eq_true rfl) (Nat.le_of_ble_eq_true rfl)
  · exact ts_thrW (text := "an argument is out of its range") (sx := 200) (names := ["java/lang/RuntimeException", "java/lang/Exception"]) C hx egIA_ok enIA_ok eaIA eoIA q_1179 q_140 (by decide) (by decide +kernel) (by decide +kernel) dX11_throwIfRefused_7 dX11_throwIfRefused_10 dX11_throwIfRefused_11 dX11_throwIfRefused_14 dX11_throwIfRefused_17 (Nat.le_of_ble_eq_true rfl) (Nat.le_of_ble_eq_true rfl) (Nat.le_of_ble_eq_true rfl) (Nat.le_of_ble_eq_true rfl) (Nat.le_of_ble_eq_true rfl) (Nat.le_of_ble_eq_true rfl)
def wX11_checkPlaceOnList_B18   (Q : ts_M → Prop) (X : String → ts_M → Prop)   (M : ts_M) : Prop :=
  X "java/util/NoSuchElementException" M
def wX11_checkPlaceOnList (p1 : Int) (Q : ts_M → Prop) (X : String → ts_M → Prop) (M : ts_M) : Prop :=
  ((ts_w p1 < 0 → wX11_checkPlaceOnList_B18 Q X M) ∧ (¬ (ts_w p1 < 0) → ((ts_w p1 < ts_w (M.1 6 2) → Q M) ∧ (¬ (ts_w p1 < ts_w (M.1 6 2)) → wX11_checkPlaceOnList_B18 Q X M))))
set_option maxRecDepth 100000 in
set_option maxHeartbeats 4000000 in
theorem mX11_checkPlaceOnList {l : Launch} {g : ts_W} (hl : l.stackTraces = false) {p1 : Int} {Q : ts_M → Prop} {X : String → ts_M → Prop} {M : ts_M} : wX11_checkPlaceOnList p1 Q X M → ts_ConX l g yX11_checkPlaceOnList cX11_checkPlaceOnList 2 none 6 1 6 [.ref (ts_ad g 154), ts_v p1] M (ts_Rv Q) X := by
  intro h0
  refine ts_ConX.of hl (by decide) (Nat.le_of_ble_eq_true rfl) ?_
  intro p e s m args below meth c hx C
  have H18 : ∀  (M : ts_M), wX11_checkPlaceOnList_B18   Q X  M → ts_V p l e (ts_rm 6 1 6) s m args below meth c g 2 0 0 (vx_MQ below (ts_Q g (ts_Rv Q)) (ts_X g X) args s 1 6 (ts_A g)) 18 [] [] M := by
    intro   M
    unfold wX11_checkPlaceOnList_B18
    exact ts_thrNW (text := "the list has no such place") (sx := 206) (r := ["java/lang/Exception"]) (Y := "java/lang/RuntimeException") (ix := 13) (rx := ts_rx13) C hx egNS_ok enNS_ok eaNS eoNS q_1214 q_143 (by decide) (by decide +kernel) (by decide +kernel) (by decide +kernel) ts_rx13_0 ts_rx13_1 ts_rx13_2 ts_rx13_5 dX11_checkPlaceOnList_18 dX11_checkPlaceOnList_21 dX11_checkPlaceOnList_22 dX11_checkPlaceOnList_25 dX11_checkPlaceOnList_28 (Nat.le_of_ble_eq_true rfl) (Nat.le_of_ble_eq_true rfl) (Nat.le_of_ble_eq_true rfl) (Nat.le_of_ble_eq_true rfl) (Nat.le_of_ble_eq_true rfl) (Nat.le_of_ble_eq_true rfl)
  revert h0
  unfold wX11_checkPlaceOnList
  have hl0 : lv_args 0 [.ref (ts_ad g 154), ts_v p1] = [(0, .ref (ts_ad g 154)), (1, ts_v p1)] := rfl
  rw [hl0]
  refine ts_iload_n C dX11_checkPlaceOnList_0 rfl 1 rfl ?_
  refine ts_cm0_lt C rfl 18 dX11_checkPlaceOnList_1 rfl ?_ ?_
  · exact ts_sub [] rfl (H18 _)
  · refine ts_iload_n C dX11_checkPlaceOnList_4 rfl 1 rfl ?_
    refine ts_aload_n C dX11_checkPlaceOnList_5 rfl 0 rfl ?_
    refine tgX11_0 C q_428 dX11_checkPlaceOnList_6 ?_
    refine tgX9_1 ts_iS0 C q_294 dX11_checkPlaceOnList_9 ?_
    refine tgX4_2 ts_iS0 C q_229 dX11_checkPlaceOnList_12 ?_
    refine ts_cmp_lt C rfl rfl 29 dX11_checkPlaceOnList_15 rfl ?_ ?_
    · exact ts_xr (ts_vreti C (Nat.le_of_ble_eq_true rfl) (Nat.le_of_ble_eq_true rfl) dX11_checkPlaceOnList_29)
    · exact ts_sub [] rfl (H18 _)
def wX11_checkMotion (Q : ts_M → Prop) (X : String → ts_M → Prop) (M : ts_M) : Prop :=
  ((¬ (ts_w (M.1 9 1) = 0) → Q M) ∧ (ts_w (M.1 9 1) = 0 → X "java/util/NoSuchElementException" M))
set_option maxRecDepth 100000 in
set_option maxHeartbeats 4000000 in
theorem mX11_checkMotion {l : Launch} {g : ts_W} (hl : l.stackTraces = false) {Q : ts_M → Prop} {X : String → ts_M → Prop} {M : ts_M} : wX11_checkMotion Q X M → ts_ConX l g yX11_checkMotion cX11_checkMotion 1 none 6 1 6 [.ref (ts_ad g 154)] M (ts_Rv Q) X := by
  intro h0
  refine ts_ConX.of hl (by decide) (Nat.le_of_ble_eq_true rfl) ?_
  intro p e s m args below meth c hx C
  revert h0
  unfold wX11_checkMotion
  have hl0 : lv_args 0 [.ref (ts_ad g 154)] = [(0, .ref (ts_ad g 154))] := rfl
  rw [hl0]
  refine ts_aload_n C dX11_checkMotion_0 rfl 0 rfl ?_
  refine tgX11_0 C q_428 dX11_checkMotion_1 ?_
  refine tgX9_2 ts_iS0 C q_296 dX11_checkMotion_4 ?_
  refine tgX10_1 ts_iS0 C q_249 dX11_checkMotion_7 ?_
  refine ts_cm0_ne C rfl 24 dX11_checkMotion_10 rfl ?_ ?_
  · exact ts_xr (ts_vreti C (Nat.le_of_ble_eq_true rfl) (Nat.le_of_ble_eq_true rfl) dX11_checkMotion_24)
  · exact ts_thrNW (text := "the table is empty") (sx := 212) (r := ["java/lang/Exception"]) (Y := "java/lang/RuntimeException") (ix := 13) (rx := ts_rx13) C hx egNS_ok enNS_ok eaNS eoNS q_1214 q_143 (by decide) (by decide +kernel) (by decide +kernel) (by decide +kernel) ts_rx13_0 ts_rx13_1 ts_rx13_2 ts_rx13_5 dX11_checkMotion_13 dX11_checkMotion_16 dX11_checkMotion_17 dX11_checkMotion_20 dX11_checkMotion_23 (Nat.le_of_ble_eq_true rfl) (Nat.le_of_ble_eq_true rfl) (Nat.le_of_ble_eq_true rfl) (Nat.le_of_ble_eq_true rfl) (Nat.le_of_ble_eq_true rfl) (Nat.le_of_ble_eq_true rfl)
def wX5_fewestFrom_B19 (rec : Int → Int → Int → Int → (Int → ts_M → Prop) → ts_M → Prop)  (Q : Int → ts_M → Prop)  (y3 : Int) (M : ts_M) : Prop :=
  Q y3 M
def wX5_fewestFrom_B81 (rec : Int → Int → Int → Int → (Int → ts_M → Prop) → ts_M → Prop) (k28 : Int → Int → Int → Int → Int → ts_M → Prop) (Q : Int → ts_M → Prop)  (y1 : Int) (y2 : Int) (y3 : Int) (y5 : Int) (y6 : Int) (M : ts_M) : Prop :=
  (∀ x5 : Int, x5 = y6 + 1 → k28 y1 y2 y3 y5 x5 M)
def wX5_fewestFrom_L28 (rec : Int → Int → Int → Int → (Int → ts_M → Prop) → ts_M → Prop)  (Q : Int → ts_M → Prop) (k28 : Int → Int → Int → Int → Int → ts_M → Prop) (y1 : Int) (y2 : Int) (y3 : Int) (y5 : Int) (y6 : Int) (M : ts_M) : Prop :=
  ((6 ≤ ts_w y6 → Q y5 M) ∧ (¬ (6 ≤ ts_w y6) → (wX5_isIn y6 y2 (fun r4 M3 => ((ts_w r4 = 0 → wX5_fewestFrom_B81 rec k28 Q y1 y2 y3 y5 y6 M3) ∧ (¬ (ts_w r4 = 0) → (∀ x6 : Int, x6 = ts_and y2 (ts_xor (ts_shl 1 y6) (-1)) → (wX5_disagreements y6 x6 (fun r8 M7 => (∀ x9 : Int, x9 = r8 → (rec (y1 + 1) x6 (y3 + x9) y5 (fun r10 M11 => (∀ x12 : Int, x12 = r10 → wX5_fewestFrom_B81 rec k28 Q y1 y2 y3 x12 y6 M11)) M7))) M3))))) M)))
def wX5_fewestFrom_F (rec : Int → Int → Int → Int → (Int → ts_M → Prop) → ts_M → Prop) (p2 : Int) (p3 : Int) (p4 : Int) (p5 : Int) (Q : Int → ts_M → Prop) (M : ts_M) : Prop :=
  ((ts_w p4 < ts_w p5 → ((ts_w p3 = 0 → wX5_fewestFrom_B19 rec Q p4 M) ∧ (¬ (ts_w p3 = 0) → ((ts_w p2 < 6 → (∀ x1 : Int, x1 = p5 → (∀ x2 : Int, x2 = 0 → ∃ n, ts_lp5 (wX5_fewestFrom_L28 rec Q) n p2 p3 p4 x1 x2 M))) ∧ (¬ (ts_w p2 < 6) → wX5_fewestFrom_B19 rec Q p4 M))))) ∧ (¬ (ts_w p4 < ts_w p5) → Q p5 M))
set_option maxRecDepth 100000 in
set_option maxHeartbeats 4000000 in
theorem mX5_fewestFrom_F {l : Launch} {g : ts_W} (hl : l.stackTraces = false) {rec : Int → Int → Int → Int → (Int → ts_M → Prop) → ts_M → Prop} {nd : Nat} (hrec : ∀ {x2 x3 x4 x5 : Int} {Q : Int → ts_M → Prop} {M : ts_M}, rec x2 x3 x4 x5 Q M → ts_Con l g yX5_fewestFrom cX5_fewestFrom 9 (some .int) (nd + 1) 0 0 [.ref (ts_ad g 156), ts_v x2, ts_v x3, ts_v x4, ts_v x5] M (ts_Ri Q)) {p2 : Int} {p3 : Int} {p4 : Int} {p5 : Int} {Q : Int → ts_M → Prop} {M : ts_M} : wX5_fewestFrom_F rec p2 p3 p4 p5 Q M → ts_Con l g yX5_fewestFrom cX5_fewestFrom 9 (some .int) (nd + 2) 0 0 [.ref (ts_ad g 156), ts_v p2, ts_v p3, ts_v p4, ts_v p5] M (ts_Ri Q) := by
  intro h0
  refine ts_Con.of hl (by decide) (Nat.le_of_ble_eq_true rfl) ?_
  intro p e s m args below meth c C
  have H19 : ∀ (y3 : Int) (M : ts_M), wX5_fewestFrom_B19 rec  Q y3 M → ts_V p l e (ts_rm (nd + 2) 0 0) s m args below meth c g 9 0 0 (MQ below (ts_Q g (ts_Ri Q)) args s 0 0 (ts_A g)) 19 [(3, ts_v y3)] [] M := by
    intro  y3 M
    unfold wX5_fewestFrom_B19
    refine ts_iload_n C dX5_fewestFrom_19 rfl 0 rfl ?_
    exact ts_ireti C (Nat.zero_le _) (Nat.zero_le _) dX5_fewestFrom_20
  have H81 : ∀ (k28 : Int → Int → Int → Int → Int → ts_M → Prop) (hk28 : ∀ (y1 : Int) (y2 : Int) (y3 : Int) (y5 : Int) (y6 : Int) (M : ts_M), k28 y1 y2 y3 y5 y6 M → ts_V p l e (ts_rm (nd + 2) 0 0) s m args below meth c g 9 0 0 (MQ below (ts_Q g (ts_Ri Q)) args s 0 0 (ts_A g)) 28 [(0, .ref (ts_ad g 156)), (1, ts_v y1), (2, ts_v y2), (3, ts_v y3), (5, ts_v y5), (6, ts_v y6)] [] M) (y1 : Int) (y2 : Int) (y3 : Int) (y5 : Int) (y6 : Int) (M : ts_M), wX5_fewestFrom_B81 rec k28 Q y1 y2 y3 y5 y6 M → ts_V p l e (ts_rm (nd + 2) 0 0) s m args below meth c g 9 0 0 (MQ below (ts_Q g (ts_Ri Q)) args s 0 0 (ts_A g)) 81 [(0, .ref (ts_ad g 156)), (1, ts_v y1), (2, ts_v y2), (3, ts_v y3), (5, ts_v y5), (6, ts_v y6)] [] M := by
    intro k28 hk28 y1 y2 y3 y5 y6 M
    unfold wX5_fewestFrom_B81
    refine ts_iinc C dX5_fewestFrom_81 5 rfl (by decide) (lv' := fun x5 => [(6, ts_v x5), (0, .ref (ts_ad g 156)), (1, ts_v y1), (2, ts_v y2), (3, ts_v y3), (5, ts_v y5)]) (fun _ => rfl) (fun x5 => ?_)
    refine ts_goto C 28 dX5_fewestFrom_84 rfl ?_
    exact ts_sub [1, 2, 3, 4, 5, 0] rfl (hk28 _ _ _ _ _ _)
  have H28 : ∀ (n : Nat) (y1 : Int) (y2 : Int) (y3 : Int) (y5 : Int) (y6 : Int) (M : ts_M), ts_lp5 (wX5_fewestFrom_L28 rec  Q) n y1 y2 y3 y5 y6 M → ts_V p l e (ts_rm (nd + 2) 0 0) s m args below meth c g 9 0 0 (MQ below (ts_Q g (ts_Ri Q)) args s 0 0 (ts_A g)) 28 [(0, .ref (ts_ad g 156)), (1, ts_v y1), (2, ts_v y2), (3, ts_v y3), (5, ts_v y5), (6, ts_v y6)] [] M := by
    refine ts_lpr5 (V := fun (y1 : Int) (y2 : Int) (y3 : Int) (y5 : Int) (y6 : Int) (M : ts_M) => ts_V p l e (ts_rm (nd + 2) 0 0) s m args below meth c g 9 0 0 (MQ below (ts_Q g (ts_Ri Q)) args s 0 0 (ts_A g)) 28 [(0, .ref (ts_ad g 156)), (1, ts_v y1), (2, ts_v y2), (3, ts_v y3), (5, ts_v y5), (6, ts_v y6)] [] M) ?_
    intro k28 hk28 y1 y2 y3 y5 y6 M
    unfold wX5_fewestFrom_L28
    refine ts_iload C dX5_fewestFrom_28 5 rfl ?_
    refine ts_bipush C dX5_fewestFrom_30 6 tb_6 ?_
    refine ts_cmp_ge C rfl tw_6 87 dX5_fewestFrom_32 rfl ?_ ?_
    · refine ts_iload C dX5_fewestFrom_87 4 rfl ?_
      exact ts_ireti C (Nat.zero_le _) (Nat.zero_le _) dX5_fewestFrom_89
    · refine ts_iload C dX5_fewestFrom_35 5 rfl ?_
      refine ts_iload_n C dX5_fewestFrom_37 rfl 2 rfl ?_
      refine ts_callSi C [ts_v y6, ts_v y2] (mX5_isIn hl) kX5_isIn q_506 rfl rfl (Nat.le_of_ble_eq_true rfl) ⟨by simp only [ts_rm]; omega, by simp only [ts_rm]; omega⟩ ⟨Nat.le_of_ble_eq_true rfl, Nat.le_of_ble_eq_true rfl⟩ dX5_fewestFrom_38 (fun r4 M3 => ?_)
      refine ts_cm0_eq C rfl 81 dX5_fewestFrom_41 rfl ?_ ?_
      · exact ts_sub [0, 1, 2, 3, 4, 5] rfl (H81 k28 hk28 _ _ _ _ _ _)
      · refine ts_iload_n C dX5_fewestFrom_44 rfl 2 rfl ?_
        refine ts_iconst C dX5_fewestFrom_45 1 rfl ?_
        refine ts_iload C dX5_fewestFrom_46 5 rfl ?_
        refine ts_ishl C dX5_fewestFrom_48 ?_
        refine ts_iconst C dX5_fewestFrom_49 (-1) rfl ?_
        refine ts_ixor C dX5_fewestFrom_50 ?_
        refine ts_iand C dX5_fewestFrom_51 ?_
        refine ts_istore C dX5_fewestFrom_52 (by decide) (lv' := fun x6 => [(7, ts_v x6), (0, .ref (ts_ad g 156)), (1, ts_v y1), (2, ts_v y2), (3, ts_v y3), (5, ts_v y5), (6, ts_v y6)]) (fun _ => rfl) (fun x6 => ?_)
        refine ts_aload_n C dX5_fewestFrom_54 rfl 1 rfl ?_
        refine ts_iload C dX5_fewestFrom_55 6 rfl ?_
        refine ts_iload C dX5_fewestFrom_57 0 rfl ?_
        refine ts_callSi C [.ref (ts_ad g 156), ts_v y6, ts_v x6] (mX5_disagreements hl) kX5_disagreements q_513 rfl rfl (Nat.le_of_ble_eq_true rfl) ⟨by simp only [ts_rm]; omega, by simp only [ts_rm]; omega⟩ ⟨Nat.le_of_ble_eq_true rfl, Nat.le_of_ble_eq_true rfl⟩ dX5_fewestFrom_59 (fun r8 M7 => ?_)
        refine ts_istore C dX5_fewestFrom_62 (by decide) (lv' := fun x9 => [(8, ts_v x9), (7, ts_v x6), (0, .ref (ts_ad g 156)), (1, ts_v y1), (2, ts_v y2), (3, ts_v y3), (5, ts_v y5), (6, ts_v y6)]) (fun _ => rfl) (fun x9 => ?_)
        refine ts_aload_n C dX5_fewestFrom_64 rfl 2 rfl ?_
        refine ts_iload_n C dX5_fewestFrom_65 rfl 3 rfl ?_
        refine ts_iconst C dX5_fewestFrom_66 1 rfl ?_
        refine ts_iadd C dX5_fewestFrom_67 ?_
        refine ts_iload C dX5_fewestFrom_68 1 rfl ?_
        refine ts_iload_n C dX5_fewestFrom_70 rfl 5 rfl ?_
        refine ts_iload C dX5_fewestFrom_71 0 rfl ?_
        refine ts_iadd C dX5_fewestFrom_73 ?_
        refine ts_iload C dX5_fewestFrom_74 6 rfl ?_
        refine ts_callSi C [.ref (ts_ad g 156), ts_v (y1 + 1), ts_v x6, ts_v (y3 + x9), ts_v y5] hrec kX5_fewestFrom q_524 rfl rfl (Nat.le_of_ble_eq_true rfl) ⟨by simp only [ts_rm]; omega, by simp only [ts_rm]; omega⟩ ⟨Nat.le_of_ble_eq_true rfl, Nat.le_of_ble_eq_true rfl⟩ dX5_fewestFrom_76 (fun r10 M11 => ?_)
        refine ts_istore C dX5_fewestFrom_79 (by decide) (lv' := fun x12 => [(5, ts_v x12), (8, ts_v x9), (7, ts_v x6), (0, .ref (ts_ad g 156)), (1, ts_v y1), (2, ts_v y2), (3, ts_v y3), (6, ts_v y6)]) (fun _ => rfl) (fun x12 => ?_)
        exact ts_sub [3, 4, 5, 6, 0, 7] rfl (H81 k28 hk28 _ _ _ _ _ _)
  revert h0
  unfold wX5_fewestFrom_F
  have hl0 : lv_args 0 [.ref (ts_ad g 156), ts_v p2, ts_v p3, ts_v p4, ts_v p5] = [(0, .ref (ts_ad g 156)), (1, ts_v p2), (2, ts_v p3), (3, ts_v p4), (4, ts_v p5)] := rfl
  rw [hl0]
  refine ts_iload_n C dX5_fewestFrom_0 rfl 3 rfl ?_
  refine ts_iload C dX5_fewestFrom_1 4 rfl ?_
  refine ts_cmp_lt C rfl rfl 9 dX5_fewestFrom_3 rfl ?_ ?_
  · refine ts_iload_n C dX5_fewestFrom_9 rfl 2 rfl ?_
    refine ts_cm0_eq C rfl 19 dX5_fewestFrom_10 rfl ?_ ?_
    · exact ts_sub [3] rfl (H19 _ _)
    · refine ts_iload_n C dX5_fewestFrom_13 rfl 1 rfl ?_
      refine ts_bipush C dX5_fewestFrom_14 6 tb_6 ?_
      refine ts_cmp_lt C rfl tw_6 21 dX5_fewestFrom_16 rfl ?_ ?_
      · refine ts_iload C dX5_fewestFrom_21 4 rfl ?_
        refine ts_istore C dX5_fewestFrom_23 (by decide) (lv' := fun x1 => [(5, ts_v x1), (0, .ref (ts_ad g 156)), (1, ts_v p2), (2, ts_v p3), (3, ts_v p4), (4, ts_v p5)]) (fun _ => rfl) (fun x1 => ?_)
        refine ts_iconst C dX5_fewestFrom_25 0 rfl ?_
        refine ts_istore C dX5_fewestFrom_26 (by decide) (lv' := fun x2 => [(6, ts_v x2), (5, ts_v x1), (0, .ref (ts_ad g 156)), (1, ts_v p2), (2, ts_v p3), (3, ts_v p4), (4, ts_v p5)]) (fun _ => rfl) (fun x2 => ?_)
        rintro ⟨n, hn⟩
        exact ts_sub [2, 3, 4, 5, 1, 0] rfl (H28 n _ _ _ _ _ _) hn
      · exact ts_sub [3] rfl (H19 _ _)
  · refine ts_iload C dX5_fewestFrom_6 4 rfl ?_
    exact ts_ireti C (Nat.zero_le _) (Nat.zero_le _) dX5_fewestFrom_8
def wX5_fewestFrom : Nat → Int → Int → Int → Int → (Int → ts_M → Prop) → ts_M → Prop
  | 0 => fun _ _ _ _ _ _ => False
  | n + 1 => wX5_fewestFrom_F (wX5_fewestFrom n)
theorem mX5_fewestFrom (n : Nat) {l : Launch} {g : ts_W} (hl : l.stackTraces = false) : ∀ {x2 x3 x4 x5 : Int} {Q : Int → ts_M → Prop} {M : ts_M}, wX5_fewestFrom n x2 x3 x4 x5 Q M → ts_Con l g yX5_fewestFrom cX5_fewestFrom 9 (some .int) (n + 1) 0 0 [.ref (ts_ad g 156), ts_v x2, ts_v x3, ts_v x4, ts_v x5] M (ts_Ri Q) := by
  induction n with
  | zero => intro x2 x3 x4 x5 Q M h; exact h.elim
  | succ n ih => intro x2 x3 x4 x5 Q M h; exact mX5_fewestFrom_F hl ih h
def wX11_proposalAt (p1 : Int) (Q : Int → ts_M → Prop) (X : String → ts_M → Prop) (M : ts_M) : Prop :=
  (wX11_checkPlaceOnList p1 (fun M1 => ((0 ≤ ts_w p1 ∧ ts_w p1 < ((6 : Nat) : Int)) ∧ Q (M1.1 7 (ts_w p1)) M1)) X M)
set_option maxRecDepth 100000 in
set_option maxHeartbeats 4000000 in
theorem mX11_proposalAt {l : Launch} {g : ts_W} (hl : l.stackTraces = false) {p1 : Int} {Q : Int → ts_M → Prop} {X : String → ts_M → Prop} {M : ts_M} : wX11_proposalAt p1 Q X M → ts_ConX l g yX11_proposalAt cX11_proposalAt 2 (some .int) 7 1 6 [.ref (ts_ad g 154), ts_v p1] M (ts_Ri Q) X := by
  intro h0
  refine ts_ConX.of hl (by decide) (Nat.le_of_ble_eq_true rfl) ?_
  intro p e s m args below meth c hx C
  revert h0
  unfold wX11_proposalAt
  have hl0 : lv_args 0 [.ref (ts_ad g 154), ts_v p1] = [(0, .ref (ts_ad g 154)), (1, ts_v p1)] := rfl
  rw [hl0]
  refine ts_aload_n C dX11_proposalAt_0 rfl 0 rfl ?_
  refine ts_iload_n C dX11_proposalAt_1 rfl 1 rfl ?_
  refine ts_callXVv C hx [ts_v p1] (mX11_checkPlaceOnList hl) kX11_checkPlaceOnList q_1539 (by decide) shX11 rfl rfl rfl (Nat.le_of_ble_eq_true rfl) ⟨Nat.le_of_ble_eq_true rfl, Nat.le_of_ble_eq_true rfl⟩ ⟨Nat.le_of_ble_eq_true rfl, Nat.le_of_ble_eq_true rfl⟩ ⟨Nat.le_of_ble_eq_true rfl, Nat.le_of_ble_eq_true rfl⟩ dX11_proposalAt_2 (fun M1 => ?_)
  refine ts_aload_n C dX11_proposalAt_5 rfl 0 rfl ?_
  refine tgX11_0 C q_428 dX11_proposalAt_6 ?_
  refine tgX9_1 ts_iS0 C q_294 dX11_proposalAt_9 ?_
  refine tgX4_0 ts_iS0 C q_222 dX11_proposalAt_12 ?_
  refine ts_iload_n C dX11_proposalAt_15 rfl 1 rfl ?_
  refine ts_iald C (ts_lt ts_iS0 7 (by decide)) (shS7 ts_iS0) dX11_proposalAt_16 ?_
  exact ts_xr (ts_ireti C (Nat.le_of_ble_eq_true rfl) (Nat.le_of_ble_eq_true rfl) dX11_proposalAt_17)
def wX11_amendment (Q : Int → ts_M → Prop) (X : String → ts_M → Prop) (M : ts_M) : Prop :=
  (wX10_holds 0 1 (fun r2 M1 => ((¬ (ts_w r2 = 0) → Q (M1.1 9 3) M1) ∧ (ts_w r2 = 0 → X "java/util/NoSuchElementException" M1))) M)
set_option maxRecDepth 100000 in
set_option maxHeartbeats 4000000 in
theorem mX11_amendment {l : Launch} {g : ts_W} (hl : l.stackTraces = false) {Q : Int → ts_M → Prop} {X : String → ts_M → Prop} {M : ts_M} : wX11_amendment Q X M → ts_ConX l g yX11_amendment cX11_amendment 1 (some .int) 6 1 6 [.ref (ts_ad g 154)] M (ts_Ri Q) X := by
  intro h0
  refine ts_ConX.of hl (by decide) (Nat.le_of_ble_eq_true rfl) ?_
  intro p e s m args below meth c hx C
  revert h0
  unfold wX11_amendment
  have hl0 : lv_args 0 [.ref (ts_ad g 154)] = [(0, .ref (ts_ad g 154))] := rfl
  rw [hl0]
  refine ts_aload_n C dX11_amendment_0 rfl 0 rfl ?_
  refine tgX11_0 C q_428 dX11_amendment_1 ?_
  refine tgX9_2 ts_iS0 C q_296 dX11_amendment_4 ?_
  refine ts_iconst C dX11_amendment_7 1 rfl ?_
  refine ts_callVi C [ts_v 1] (mX10_holds hl ts_iS0) kX10_holds q_1573 (ts_lt ts_iS0 9 (by decide)) (shX10 ts_iS0) rfl rfl rfl (Nat.le_of_ble_eq_true rfl) ⟨Nat.le_of_ble_eq_true rfl, Nat.le_of_ble_eq_true rfl⟩ ⟨Nat.le_of_ble_eq_true rfl, Nat.le_of_ble_eq_true rfl⟩ dX11_amendment_8 (fun r2 M1 => ?_)
  refine ts_cm0_ne C rfl 24 dX11_amendment_11 rfl ?_ ?_
  · refine ts_aload_n C dX11_amendment_24 rfl 0 rfl ?_
    refine tgX11_0 C q_428 dX11_amendment_25 ?_
    refine tgX9_2 ts_iS0 C q_296 dX11_amendment_28 ?_
    refine tgX10_3 ts_iS0 C q_255 dX11_amendment_31 ?_
    exact ts_xr (ts_ireti C (Nat.le_of_ble_eq_true rfl) (Nat.le_of_ble_eq_true rfl) dX11_amendment_34)
  · exact ts_thrN (text := "no amendment lies on the table") (sx := 209) (r := ["java/lang/Exception"]) (Y := "java/lang/RuntimeException") (ix := 13) (rx := ts_rx13) C hx egNS_ok enNS_ok eaNS eoNS q_1214 q_143 (by decide) (by decide +kernel) (by decide +kernel) (by decide +kernel) ts_rx13_0 ts_rx13_1 ts_rx13_2 ts_rx13_5 dX11_amendment_14 dX11_amendment_17 dX11_amendment_18 dX11_amendment_20 dX11_amendment_23 (Nat.le_of_ble_eq_true rfl) (Nat.le_of_ble_eq_true rfl) (Nat.le_of_ble_eq_true rfl) (Nat.le_of_ble_eq_true rfl) (Nat.le_of_ble_eq_true rfl) (Nat.le_of_ble_eq_true rfl)
def wX11_mainProposal (Q : Int → ts_M → Prop) (X : String → ts_M → Prop) (M : ts_M) : Prop :=
  (wX10_holds 0 0 (fun r2 M1 => ((¬ (ts_w r2 = 0) → Q (M1.1 9 2) M1) ∧ (ts_w r2 = 0 → X "java/util/NoSuchElementException" M1))) M)
set_option maxRecDepth 100000 in
set_option maxHeartbeats 4000000 in
theorem mX11_mainProposal {l : Launch} {g : ts_W} (hl : l.stackTraces = false) {Q : Int → ts_M → Prop} {X : String → ts_M → Prop} {M : ts_M} : wX11_mainProposal Q X M → ts_ConX l g yX11_mainProposal cX11_mainProposal 1 (some .int) 6 1 6 [.ref (ts_ad g 154)] M (ts_Ri Q) X := by
  intro h0
  refine ts_ConX.of hl (by decide) (Nat.le_of_ble_eq_true rfl) ?_
  intro p e s m args below meth c hx C
  revert h0
  unfold wX11_mainProposal
  have hl0 : lv_args 0 [.ref (ts_ad g 154)] = [(0, .ref (ts_ad g 154))] := rfl
  rw [hl0]
  refine ts_aload_n C dX11_mainProposal_0 rfl 0 rfl ?_
  refine tgX11_0 C q_428 dX11_mainProposal_1 ?_
  refine tgX9_2 ts_iS0 C q_296 dX11_mainProposal_4 ?_
  refine ts_iconst C dX11_mainProposal_7 0 rfl ?_
  refine ts_callVi C [ts_v 0] (mX10_holds hl ts_iS0) kX10_holds q_1573 (ts_lt ts_iS0 9 (by decide)) (shX10 ts_iS0) rfl rfl rfl (Nat.le_of_ble_eq_true rfl) ⟨Nat.le_of_ble_eq_true rfl, Nat.le_of_ble_eq_true rfl⟩ ⟨Nat.le_of_ble_eq_true rfl, Nat.le_of_ble_eq_true rfl⟩ dX11_mainProposal_8 (fun r2 M1 => ?_)
  refine ts_cm0_ne C rfl 24 dX11_mainProposal_11 rfl ?_ ?_
  · refine ts_aload_n C dX11_mainProposal_24 rfl 0 rfl ?_
    refine tgX11_0 C q_428 dX11_mainProposal_25 ?_
    refine tgX9_2 ts_iS0 C q_296 dX11_mainProposal_28 ?_
    refine tgX10_2 ts_iS0 C q_252 dX11_mainProposal_31 ?_
    exact ts_xr (ts_ireti C (Nat.le_of_ble_eq_true rfl) (Nat.le_of_ble_eq_true rfl) dX11_mainProposal_34)
  · exact ts_thrN (text := "no main motion lies on the table") (sx := 210) (r := ["java/lang/Exception"]) (Y := "java/lang/RuntimeException") (ix := 13) (rx := ts_rx13) C hx egNS_ok enNS_ok eaNS eoNS q_1214 q_143 (by decide) (by decide +kernel) (by decide +kernel) (by decide +kernel) ts_rx13_0 ts_rx13_1 ts_rx13_2 ts_rx13_5 dX11_mainProposal_14 dX11_mainProposal_17 dX11_mainProposal_18 dX11_mainProposal_20 dX11_mainProposal_23 (Nat.le_of_ble_eq_true rfl) (Nat.le_of_ble_eq_true rfl) (Nat.le_of_ble_eq_true rfl) (Nat.le_of_ble_eq_true rfl) (Nat.le_of_ble_eq_true rfl) (Nat.le_of_ble_eq_true rfl)
def wX11_type_B12   (Q : Int → ts_M → Prop) (X : String → ts_M → Prop)   (M : ts_M) : Prop :=
  X "java/lang/IllegalArgumentException" M
def wX11_type (p1 : Int) (Q : Int → ts_M → Prop) (X : String → ts_M → Prop) (M : ts_M) : Prop :=
  ((ts_w p1 < 32 → wX11_type_B12 Q X M) ∧ (¬ (ts_w p1 < 32) → ((ts_w p1 ≤ 126 → (wX7_isFull  (fun r2 M1 => ((ts_w r2 = 0 → (wX7_add p1 (fun r4 M3 => Q r4 M3) M1)) ∧ (¬ (ts_w r2 = 0) → X "java/lang/IllegalStateException" M1))) M)) ∧ (¬ (ts_w p1 ≤ 126) → wX11_type_B12 Q X M))))
set_option maxRecDepth 100000 in
set_option maxHeartbeats 4000000 in
theorem mX11_type {l : Launch} {g : ts_W} (hl : l.stackTraces = false) {p1 : Int} {Q : Int → ts_M → Prop} {X : String → ts_M → Prop} {M : ts_M} : wX11_type p1 Q X M → ts_ConX l g yX11_type cX11_type 2 (some .int) 6 1 6 [.ref (ts_ad g 154), ts_v p1] M (ts_Ri Q) X := by
  intro h0
  refine ts_ConX.of hl (by decide) (Nat.le_of_ble_eq_true rfl) ?_
  intro p e s m args below meth c hx C
  have H12 : ∀  (M : ts_M), wX11_type_B12   Q X  M → ts_V p l e (ts_rm 6 1 6) s m args below meth c g 2 0 0 (vx_MQ below (ts_Q g (ts_Ri Q)) (ts_X g X) args s 1 6 (ts_A g)) 12 [] [] M := by
    intro   M
    unfold wX11_type_B12
    exact ts_thrW (text := "the character cannot be typed") (sx := 219) (names := ["java/lang/RuntimeException", "java/lang/Exception"]) C hx egIA_ok enIA_ok eaIA eoIA q_1179 q_140 (by decide) (by decide +kernel) (by decide +kernel) dX11_type_12 dX11_type_15 dX11_type_16 dX11_type_19 dX11_type_22 (Nat.le_of_ble_eq_true rfl) (Nat.le_of_ble_eq_true rfl) (Nat.le_of_ble_eq_true rfl) (Nat.le_of_ble_eq_true rfl) (Nat.le_of_ble_eq_true rfl) (Nat.le_of_ble_eq_true rfl)
  revert h0
  unfold wX11_type
  have hl0 : lv_args 0 [.ref (ts_ad g 154), ts_v p1] = [(0, .ref (ts_ad g 154)), (1, ts_v p1)] := rfl
  rw [hl0]
  refine ts_iload_n C dX11_type_0 rfl 1 rfl ?_
  refine ts_bipush C dX11_type_1 32 tb_32 ?_
  refine ts_cmp_lt C rfl tw_32 12 dX11_type_3 rfl ?_ ?_
  · exact ts_sub [] rfl (H12 _)
  · refine ts_iload_n C dX11_type_6 rfl 1 rfl ?_
    refine ts_bipush C dX11_type_7 126 tb_126 ?_
    refine ts_cmp_le C rfl tw_126 23 dX11_type_9 rfl ?_ ?_
    · refine ts_aload_n C dX11_type_23 rfl 0 rfl ?_
      refine tgX11_5 C q_433 dX11_type_24 ?_
      refine ts_callVi C [] (mX7_isFull hl) kX7_isFull q_1839 (by decide) shX7 rfl rfl rfl (Nat.le_of_ble_eq_true rfl) ⟨Nat.le_of_ble_eq_true rfl, Nat.le_of_ble_eq_true rfl⟩ ⟨Nat.le_of_ble_eq_true rfl, Nat.le_of_ble_eq_true rfl⟩ dX11_type_27 (fun r2 M1 => ?_)
      refine ts_cm0_eq C rfl 44 dX11_type_30 rfl ?_ ?_
      · refine ts_aload_n C dX11_type_44 rfl 0 rfl ?_
        refine tgX11_5 C q_433 dX11_type_45 ?_
        refine ts_iload_n C dX11_type_48 rfl 1 rfl ?_
        refine ts_callVi C [ts_v p1] (mX7_add hl) kX7_add q_1844 (by decide) shX7 rfl rfl rfl (Nat.le_of_ble_eq_true rfl) ⟨Nat.le_of_ble_eq_true rfl, Nat.le_of_ble_eq_true rfl⟩ ⟨Nat.le_of_ble_eq_true rfl, Nat.le_of_ble_eq_true rfl⟩ dX11_type_49 (fun r4 M3 => ?_)
        exact ts_xr (ts_ireti C (Nat.le_of_ble_eq_true rfl) (Nat.le_of_ble_eq_true rfl) dX11_type_52)
      · exact ts_thrW (text := "the script buffer is full") (sx := 220) (names := ["java/lang/RuntimeException", "java/lang/Exception"]) C hx egIS_ok enIS_ok eaIS eoIS q_1183 q_141 (by decide) (by decide +kernel) (by decide +kernel) dX11_type_33 dX11_type_36 dX11_type_37 dX11_type_40 dX11_type_43 (Nat.le_of_ble_eq_true rfl) (Nat.le_of_ble_eq_true rfl) (Nat.le_of_ble_eq_true rfl) (Nat.le_of_ble_eq_true rfl) (Nat.le_of_ble_eq_true rfl) (Nat.le_of_ble_eq_true rfl)
    · exact ts_sub [] rfl (H12 _)
def wX11_checkSpoon (p1 : Int) (Q : ts_M → Prop) (X : String → ts_M → Prop) (M : ts_M) : Prop :=
  (wX8_has 0 p1 (fun r2 M1 => ((¬ (ts_w r2 = 0) → Q M1) ∧ (ts_w r2 = 0 → X "java/lang/IndexOutOfBoundsException" M1))) M)
set_option maxRecDepth 100000 in
set_option maxHeartbeats 4000000 in
theorem mX11_checkSpoon {l : Launch} {g : ts_W} (hl : l.stackTraces = false) {p1 : Int} {Q : ts_M → Prop} {X : String → ts_M → Prop} {M : ts_M} : wX11_checkSpoon p1 Q X M → ts_ConX l g yX11_checkSpoon cX11_checkSpoon 2 none 6 1 6 [.ref (ts_ad g 154), ts_v p1] M (ts_Rv Q) X := by
  intro h0
  refine ts_ConX.of hl (by decide) (Nat.le_of_ble_eq_true rfl) ?_
  intro p e s m args below meth c hx C
  revert h0
  unfold wX11_checkSpoon
  have hl0 : lv_args 0 [.ref (ts_ad g 154), ts_v p1] = [(0, .ref (ts_ad g 154)), (1, ts_v p1)] := rfl
  rw [hl0]
  refine ts_aload_n C dX11_checkSpoon_0 rfl 0 rfl ?_
  refine tgX11_0 C q_428 dX11_checkSpoon_1 ?_
  refine tgX9_0 ts_iS0 C q_291 dX11_checkSpoon_4 ?_
  refine ts_iload_n C dX11_checkSpoon_7 rfl 1 rfl ?_
  refine ts_callVi C [ts_v p1] (mX8_has hl ts_iS0) kX8_has q_1509 (ts_lt ts_iS0 1 (by decide)) (shX8 ts_iS0) rfl rfl rfl (Nat.le_of_ble_eq_true rfl) ⟨Nat.le_of_ble_eq_true rfl, Nat.le_of_ble_eq_true rfl⟩ ⟨Nat.le_of_ble_eq_true rfl, Nat.le_of_ble_eq_true rfl⟩ dX11_checkSpoon_8 (fun r2 M1 => ?_)
  refine ts_cm0_ne C rfl 25 dX11_checkSpoon_11 rfl ?_ ?_
  · exact ts_xr (ts_vreti C (Nat.le_of_ble_eq_true rfl) (Nat.le_of_ble_eq_true rfl) dX11_checkSpoon_25)
  · exact ts_thrW (text := "there is no such spoon") (sx := 205) (names := ["java/lang/RuntimeException", "java/lang/Exception"]) C hx egIO_ok enIO_ok eaIO eoIO q_1200 q_142 (by decide) (by decide +kernel) (by decide +kernel) dX11_checkSpoon_14 dX11_checkSpoon_17 dX11_checkSpoon_18 dX11_checkSpoon_21 dX11_checkSpoon_24 (Nat.le_of_ble_eq_true rfl) (Nat.le_of_ble_eq_true rfl) (Nat.le_of_ble_eq_true rfl) (Nat.le_of_ble_eq_true rfl) (Nat.le_of_ble_eq_true rfl) (Nat.le_of_ble_eq_true rfl)
def wX11_checkCell (p1 : Int) (p2 : Int) (Q : ts_M → Prop) (X : String → ts_M → Prop) (M : ts_M) : Prop :=
  (wX1_hasCell p1 p2 (fun r2 M1 => ((¬ (ts_w r2 = 0) → Q M1) ∧ (ts_w r2 = 0 → X "java/lang/IndexOutOfBoundsException" M1))) M)
set_option maxRecDepth 100000 in
set_option maxHeartbeats 4000000 in
theorem mX11_checkCell {l : Launch} {g : ts_W} (hl : l.stackTraces = false) {p1 : Int} {p2 : Int} {Q : ts_M → Prop} {X : String → ts_M → Prop} {M : ts_M} : wX11_checkCell p1 p2 Q X M → ts_ConX l g yX11_checkCell cX11_checkCell 3 none 6 1 6 [.ref (ts_ad g 154), ts_v p1, ts_v p2] M (ts_Rv Q) X := by
  intro h0
  refine ts_ConX.of hl (by decide) (Nat.le_of_ble_eq_true rfl) ?_
  intro p e s m args below meth c hx C
  revert h0
  unfold wX11_checkCell
  have hl0 : lv_args 0 [.ref (ts_ad g 154), ts_v p1, ts_v p2] = [(0, .ref (ts_ad g 154)), (1, ts_v p1), (2, ts_v p2)] := rfl
  rw [hl0]
  refine ts_iload_n C dX11_checkCell_0 rfl 1 rfl ?_
  refine ts_iload_n C dX11_checkCell_1 rfl 2 rfl ?_
  refine ts_callSi C [ts_v p1, ts_v p2] (mX1_hasCell hl) kX1_hasCell q_1724 rfl rfl (Nat.le_of_ble_eq_true rfl) ⟨Nat.le_of_ble_eq_true rfl, Nat.le_of_ble_eq_true rfl⟩ ⟨Nat.le_of_ble_eq_true rfl, Nat.le_of_ble_eq_true rfl⟩ dX11_checkCell_2 (fun r2 M1 => ?_)
  refine ts_cm0_ne C rfl 19 dX11_checkCell_5 rfl ?_ ?_
  · exact ts_xr (ts_vreti C (Nat.le_of_ble_eq_true rfl) (Nat.le_of_ble_eq_true rfl) dX11_checkCell_19)
  · exact ts_thrW (text := "there is no such cell") (sx := 213) (names := ["java/lang/RuntimeException", "java/lang/Exception"]) C hx egIO_ok enIO_ok eaIO eoIO q_1200 q_142 (by decide) (by decide +kernel) (by decide +kernel) dX11_checkCell_8 dX11_checkCell_11 dX11_checkCell_12 dX11_checkCell_15 dX11_checkCell_18 (Nat.le_of_ble_eq_true rfl) (Nat.le_of_ble_eq_true rfl) (Nat.le_of_ble_eq_true rfl) (Nat.le_of_ble_eq_true rfl) (Nat.le_of_ble_eq_true rfl) (Nat.le_of_ble_eq_true rfl)
def wX11_checkOnList (p1 : Int) (Q : ts_M → Prop) (X : String → ts_M → Prop) (M : ts_M) : Prop :=
  (wX4_placeOf 0 p1 (fun r2 M1 => ((¬ (ts_w r2 = (-1)) → Q M1) ∧ (ts_w r2 = (-1) → X "java/util/NoSuchElementException" M1))) M)
set_option maxRecDepth 100000 in
set_option maxHeartbeats 4000000 in
theorem mX11_checkOnList {l : Launch} {g : ts_W} (hl : l.stackTraces = false) {p1 : Int} {Q : ts_M → Prop} {X : String → ts_M → Prop} {M : ts_M} : wX11_checkOnList p1 Q X M → ts_ConX l g yX11_checkOnList cX11_checkOnList 2 none 6 1 6 [.ref (ts_ad g 154), ts_v p1] M (ts_Rv Q) X := by
  intro h0
  refine ts_ConX.of hl (by decide) (Nat.le_of_ble_eq_true rfl) ?_
  intro p e s m args below meth c hx C
  revert h0
  unfold wX11_checkOnList
  have hl0 : lv_args 0 [.ref (ts_ad g 154), ts_v p1] = [(0, .ref (ts_ad g 154)), (1, ts_v p1)] := rfl
  rw [hl0]
  refine ts_aload_n C dX11_checkOnList_0 rfl 0 rfl ?_
  refine tgX11_0 C q_428 dX11_checkOnList_1 ?_
  refine tgX9_1 ts_iS0 C q_294 dX11_checkOnList_4 ?_
  refine ts_iload_n C dX11_checkOnList_7 rfl 1 rfl ?_
  refine ts_callVi C [ts_v p1] (mX4_placeOf hl ts_iS0) kX4_placeOf q_1555 (ts_lt ts_iS0 6 (by decide)) (shX4 ts_iS0) rfl rfl rfl (Nat.le_of_ble_eq_true rfl) ⟨Nat.le_of_ble_eq_true rfl, Nat.le_of_ble_eq_true rfl⟩ ⟨Nat.le_of_ble_eq_true rfl, Nat.le_of_ble_eq_true rfl⟩ dX11_checkOnList_8 (fun r2 M1 => ?_)
  refine ts_iconst C dX11_checkOnList_11 (-1) rfl ?_
  refine ts_cmp_ne C rfl tw_m1 26 dX11_checkOnList_12 rfl ?_ ?_
  · exact ts_xr (ts_vreti C (Nat.le_of_ble_eq_true rfl) (Nat.le_of_ble_eq_true rfl) dX11_checkOnList_26)
  · exact ts_thrNW (text := "no such proposal is on the list") (sx := 207) (r := ["java/lang/Exception"]) (Y := "java/lang/RuntimeException") (ix := 13) (rx := ts_rx13) C hx egNS_ok enNS_ok eaNS eoNS q_1214 q_143 (by decide) (by decide +kernel) (by decide +kernel) (by decide +kernel) ts_rx13_0 ts_rx13_1 ts_rx13_2 ts_rx13_5 dX11_checkOnList_15 dX11_checkOnList_18 dX11_checkOnList_19 dX11_checkOnList_22 dX11_checkOnList_25 (Nat.le_of_ble_eq_true rfl) (Nat.le_of_ble_eq_true rfl) (Nat.le_of_ble_eq_true rfl) (Nat.le_of_ble_eq_true rfl) (Nat.le_of_ble_eq_true rfl) (Nat.le_of_ble_eq_true rfl)
def wX5_fewestByTrying (Q : Int → ts_M → Prop) (M : ts_M) : Prop :=
  (wX5_allPlaces  (fun r2 M1 => (wX5_fewestFrom 7 0 r2 0 1000000 (fun r4 M3 => Q r4 M3) M1)) M)
set_option maxRecDepth 100000 in
set_option maxHeartbeats 4000000 in
theorem mX5_fewestByTrying {l : Launch} {g : ts_W} (hl : l.stackTraces = false) {Q : Int → ts_M → Prop} {M : ts_M} : wX5_fewestByTrying Q M → ts_Con l g yX5_fewestByTrying cX5_fewestByTrying 1 (some .int) 9 0 0 [.ref (ts_ad g 155)] M (ts_Ri Q) := by
  intro h0
  refine ts_Con.of hl (by decide) (Nat.le_of_ble_eq_true rfl) ?_
  intro p e s m args below meth c C
  revert h0
  unfold wX5_fewestByTrying
  have hl0 : lv_args 0 [.ref (ts_ad g 155)] = [(0, .ref (ts_ad g 155))] := rfl
  rw [hl0]
  refine ts_aload_n C dX5_fewestByTrying_0 rfl 0 rfl ?_
  refine tgX5_0 C q_353 dX5_fewestByTrying_1 ?_
  refine ts_iconst C dX5_fewestByTrying_4 0 rfl ?_
  refine ts_aload_n C dX5_fewestByTrying_5 rfl 0 rfl ?_
  refine ts_callVi C [] (mX5_allPlaces hl) kX5_allPlaces q_497 (by decide) shX5 rfl rfl rfl (Nat.le_of_ble_eq_true rfl) ⟨Nat.le_of_ble_eq_true rfl, Nat.le_of_ble_eq_true rfl⟩ ⟨Nat.le_of_ble_eq_true rfl, Nat.le_of_ble_eq_true rfl⟩ dX5_fewestByTrying_6 (fun r2 M1 => ?_)
  refine ts_iconst C dX5_fewestByTrying_9 0 rfl ?_
  refine ts_ldc C dX5_fewestByTrying_10 q_505 1000000 (by decide) ?_
  refine ts_callSi C [.ref (ts_ad g 156), ts_v 0, ts_v r2, ts_v 0, ts_v 1000000] (mX5_fewestFrom 7 hl) kX5_fewestFrom q_524 rfl rfl (Nat.le_of_ble_eq_true rfl) ⟨Nat.le_of_ble_eq_true rfl, Nat.le_of_ble_eq_true rfl⟩ ⟨Nat.le_of_ble_eq_true rfl, Nat.le_of_ble_eq_true rfl⟩ dX5_fewestByTrying_12 (fun r4 M3 => ?_)
  exact ts_ireti C (Nat.zero_le _) (Nat.zero_le _) dX5_fewestByTrying_15
def wX11_weight (p1 : Int) (Q : Int → ts_M → Prop) (X : String → ts_M → Prop) (M : ts_M) : Prop :=
  (wX11_checkSpoon p1 (fun M1 => ((0 ≤ ts_w p1 ∧ ts_w p1 < ((8 : Nat) : Int)) ∧ Q (M1.1 2 (ts_w p1)) M1)) X M)
set_option maxRecDepth 100000 in
set_option maxHeartbeats 4000000 in
theorem mX11_weight {l : Launch} {g : ts_W} (hl : l.stackTraces = false) {p1 : Int} {Q : Int → ts_M → Prop} {X : String → ts_M → Prop} {M : ts_M} : wX11_weight p1 Q X M → ts_ConX l g yX11_weight cX11_weight 2 (some .int) 7 1 6 [.ref (ts_ad g 154), ts_v p1] M (ts_Ri Q) X := by
  intro h0
  refine ts_ConX.of hl (by decide) (Nat.le_of_ble_eq_true rfl) ?_
  intro p e s m args below meth c hx C
  revert h0
  unfold wX11_weight
  have hl0 : lv_args 0 [.ref (ts_ad g 154), ts_v p1] = [(0, .ref (ts_ad g 154)), (1, ts_v p1)] := rfl
  rw [hl0]
  refine ts_aload_n C dX11_weight_0 rfl 0 rfl ?_
  refine ts_iload_n C dX11_weight_1 rfl 1 rfl ?_
  refine ts_callXVv C hx [ts_v p1] (mX11_checkSpoon hl) kX11_checkSpoon q_1505 (by decide) shX11 rfl rfl rfl (Nat.le_of_ble_eq_true rfl) ⟨Nat.le_of_ble_eq_true rfl, Nat.le_of_ble_eq_true rfl⟩ ⟨Nat.le_of_ble_eq_true rfl, Nat.le_of_ble_eq_true rfl⟩ ⟨Nat.le_of_ble_eq_true rfl, Nat.le_of_ble_eq_true rfl⟩ dX11_weight_2 (fun M1 => ?_)
  refine ts_aload_n C dX11_weight_5 rfl 0 rfl ?_
  refine tgX11_0 C q_428 dX11_weight_6 ?_
  refine tgX9_0 ts_iS0 C q_291 dX11_weight_9 ?_
  refine tgX8_0 ts_iS0 C q_179 dX11_weight_12 ?_
  refine ts_iload_n C dX11_weight_15 rfl 1 rfl ?_
  refine ts_iald C (ts_lt ts_iS0 2 (by decide)) (shS2 ts_iS0) dX11_weight_16 ?_
  exact ts_xr (ts_ireti C (Nat.le_of_ble_eq_true rfl) (Nat.le_of_ble_eq_true rfl) dX11_weight_17)
def wX11_stance (p1 : Int) (Q : Int → ts_M → Prop) (X : String → ts_M → Prop) (M : ts_M) : Prop :=
  (wX11_checkSpoon p1 (fun M1 => ((0 ≤ ts_w p1 ∧ ts_w p1 < ((8 : Nat) : Int)) ∧ Q (M1.1 3 (ts_w p1)) M1)) X M)
set_option maxRecDepth 100000 in
set_option maxHeartbeats 4000000 in
theorem mX11_stance {l : Launch} {g : ts_W} (hl : l.stackTraces = false) {p1 : Int} {Q : Int → ts_M → Prop} {X : String → ts_M → Prop} {M : ts_M} : wX11_stance p1 Q X M → ts_ConX l g yX11_stance cX11_stance 2 (some .int) 7 1 6 [.ref (ts_ad g 154), ts_v p1] M (ts_Ri Q) X := by
  intro h0
  refine ts_ConX.of hl (by decide) (Nat.le_of_ble_eq_true rfl) ?_
  intro p e s m args below meth c hx C
  revert h0
  unfold wX11_stance
  have hl0 : lv_args 0 [.ref (ts_ad g 154), ts_v p1] = [(0, .ref (ts_ad g 154)), (1, ts_v p1)] := rfl
  rw [hl0]
  refine ts_aload_n C dX11_stance_0 rfl 0 rfl ?_
  refine ts_iload_n C dX11_stance_1 rfl 1 rfl ?_
  refine ts_callXVv C hx [ts_v p1] (mX11_checkSpoon hl) kX11_checkSpoon q_1505 (by decide) shX11 rfl rfl rfl (Nat.le_of_ble_eq_true rfl) ⟨Nat.le_of_ble_eq_true rfl, Nat.le_of_ble_eq_true rfl⟩ ⟨Nat.le_of_ble_eq_true rfl, Nat.le_of_ble_eq_true rfl⟩ ⟨Nat.le_of_ble_eq_true rfl, Nat.le_of_ble_eq_true rfl⟩ dX11_stance_2 (fun M1 => ?_)
  refine ts_aload_n C dX11_stance_5 rfl 0 rfl ?_
  refine tgX11_0 C q_428 dX11_stance_6 ?_
  refine tgX9_0 ts_iS0 C q_291 dX11_stance_9 ?_
  refine tgX8_1 ts_iS0 C q_182 dX11_stance_12 ?_
  refine ts_iload_n C dX11_stance_15 rfl 1 rfl ?_
  refine ts_iald C (ts_lt ts_iS0 3 (by decide)) (shS3 ts_iS0) dX11_stance_16 ?_
  exact ts_xr (ts_ireti C (Nat.le_of_ble_eq_true rfl) (Nat.le_of_ble_eq_true rfl) dX11_stance_17)
def wX11_sugar (p1 : Int) (Q : Int → ts_M → Prop) (X : String → ts_M → Prop) (M : ts_M) : Prop :=
  (wX11_checkSpoon p1 (fun M1 => ((0 ≤ ts_w p1 ∧ ts_w p1 < ((8 : Nat) : Int)) ∧ Q (M1.1 4 (ts_w p1)) M1)) X M)
set_option maxRecDepth 100000 in
set_option maxHeartbeats 4000000 in
theorem mX11_sugar {l : Launch} {g : ts_W} (hl : l.stackTraces = false) {p1 : Int} {Q : Int → ts_M → Prop} {X : String → ts_M → Prop} {M : ts_M} : wX11_sugar p1 Q X M → ts_ConX l g yX11_sugar cX11_sugar 2 (some .int) 7 1 6 [.ref (ts_ad g 154), ts_v p1] M (ts_Ri Q) X := by
  intro h0
  refine ts_ConX.of hl (by decide) (Nat.le_of_ble_eq_true rfl) ?_
  intro p e s m args below meth c hx C
  revert h0
  unfold wX11_sugar
  have hl0 : lv_args 0 [.ref (ts_ad g 154), ts_v p1] = [(0, .ref (ts_ad g 154)), (1, ts_v p1)] := rfl
  rw [hl0]
  refine ts_aload_n C dX11_sugar_0 rfl 0 rfl ?_
  refine ts_iload_n C dX11_sugar_1 rfl 1 rfl ?_
  refine ts_callXVv C hx [ts_v p1] (mX11_checkSpoon hl) kX11_checkSpoon q_1505 (by decide) shX11 rfl rfl rfl (Nat.le_of_ble_eq_true rfl) ⟨Nat.le_of_ble_eq_true rfl, Nat.le_of_ble_eq_true rfl⟩ ⟨Nat.le_of_ble_eq_true rfl, Nat.le_of_ble_eq_true rfl⟩ ⟨Nat.le_of_ble_eq_true rfl, Nat.le_of_ble_eq_true rfl⟩ dX11_sugar_2 (fun M1 => ?_)
  refine ts_aload_n C dX11_sugar_5 rfl 0 rfl ?_
  refine tgX11_0 C q_428 dX11_sugar_6 ?_
  refine tgX9_0 ts_iS0 C q_291 dX11_sugar_9 ?_
  refine tgX8_2 ts_iS0 C q_186 dX11_sugar_12 ?_
  refine ts_iload_n C dX11_sugar_15 rfl 1 rfl ?_
  refine ts_iald C (ts_lt ts_iS0 4 (by decide)) (shS4 ts_iS0) dX11_sugar_16 ?_
  exact ts_xr (ts_ireti C (Nat.le_of_ble_eq_true rfl) (Nat.le_of_ble_eq_true rfl) dX11_sugar_17)
def wX11_speeches (p1 : Int) (Q : Int → ts_M → Prop) (X : String → ts_M → Prop) (M : ts_M) : Prop :=
  (wX11_checkSpoon p1 (fun M1 => ((0 ≤ ts_w p1 ∧ ts_w p1 < ((8 : Nat) : Int)) ∧ Q (M1.1 5 (ts_w p1)) M1)) X M)
set_option maxRecDepth 100000 in
set_option maxHeartbeats 4000000 in
theorem mX11_speeches {l : Launch} {g : ts_W} (hl : l.stackTraces = false) {p1 : Int} {Q : Int → ts_M → Prop} {X : String → ts_M → Prop} {M : ts_M} : wX11_speeches p1 Q X M → ts_ConX l g yX11_speeches cX11_speeches 2 (some .int) 7 1 6 [.ref (ts_ad g 154), ts_v p1] M (ts_Ri Q) X := by
  intro h0
  refine ts_ConX.of hl (by decide) (Nat.le_of_ble_eq_true rfl) ?_
  intro p e s m args below meth c hx C
  revert h0
  unfold wX11_speeches
  have hl0 : lv_args 0 [.ref (ts_ad g 154), ts_v p1] = [(0, .ref (ts_ad g 154)), (1, ts_v p1)] := rfl
  rw [hl0]
  refine ts_aload_n C dX11_speeches_0 rfl 0 rfl ?_
  refine ts_iload_n C dX11_speeches_1 rfl 1 rfl ?_
  refine ts_callXVv C hx [ts_v p1] (mX11_checkSpoon hl) kX11_checkSpoon q_1505 (by decide) shX11 rfl rfl rfl (Nat.le_of_ble_eq_true rfl) ⟨Nat.le_of_ble_eq_true rfl, Nat.le_of_ble_eq_true rfl⟩ ⟨Nat.le_of_ble_eq_true rfl, Nat.le_of_ble_eq_true rfl⟩ ⟨Nat.le_of_ble_eq_true rfl, Nat.le_of_ble_eq_true rfl⟩ dX11_speeches_2 (fun M1 => ?_)
  refine ts_aload_n C dX11_speeches_5 rfl 0 rfl ?_
  refine tgX11_0 C q_428 dX11_speeches_6 ?_
  refine tgX9_0 ts_iS0 C q_291 dX11_speeches_9 ?_
  refine tgX8_3 ts_iS0 C q_189 dX11_speeches_12 ?_
  refine ts_iload_n C dX11_speeches_15 rfl 1 rfl ?_
  refine ts_iald C (ts_lt ts_iS0 5 (by decide)) (shS5 ts_iS0) dX11_speeches_16 ?_
  exact ts_xr (ts_ireti C (Nat.le_of_ble_eq_true rfl) (Nat.le_of_ble_eq_true rfl) dX11_speeches_17)
def wX11_position (p1 : Int) (Q : Int → ts_M → Prop) (X : String → ts_M → Prop) (M : ts_M) : Prop :=
  (wX11_checkOnList p1 (fun M1 => (wX4_positionOf 0 p1 (fun r3 M2 => Q r3 M2) M1)) X M)
set_option maxRecDepth 100000 in
set_option maxHeartbeats 4000000 in
theorem mX11_position {l : Launch} {g : ts_W} (hl : l.stackTraces = false) {p1 : Int} {Q : Int → ts_M → Prop} {X : String → ts_M → Prop} {M : ts_M} : wX11_position p1 Q X M → ts_ConX l g yX11_position cX11_position 2 (some .int) 7 1 6 [.ref (ts_ad g 154), ts_v p1] M (ts_Ri Q) X := by
  intro h0
  refine ts_ConX.of hl (by decide) (Nat.le_of_ble_eq_true rfl) ?_
  intro p e s m args below meth c hx C
  revert h0
  unfold wX11_position
  have hl0 : lv_args 0 [.ref (ts_ad g 154), ts_v p1] = [(0, .ref (ts_ad g 154)), (1, ts_v p1)] := rfl
  rw [hl0]
  refine ts_aload_n C dX11_position_0 rfl 0 rfl ?_
  refine ts_iload_n C dX11_position_1 rfl 1 rfl ?_
  refine ts_callXVv C hx [ts_v p1] (mX11_checkOnList hl) kX11_checkOnList q_1551 (by decide) shX11 rfl rfl rfl (Nat.le_of_ble_eq_true rfl) ⟨Nat.le_of_ble_eq_true rfl, Nat.le_of_ble_eq_true rfl⟩ ⟨Nat.le_of_ble_eq_true rfl, Nat.le_of_ble_eq_true rfl⟩ ⟨Nat.le_of_ble_eq_true rfl, Nat.le_of_ble_eq_true rfl⟩ dX11_position_2 (fun M1 => ?_)
  refine ts_aload_n C dX11_position_5 rfl 0 rfl ?_
  refine tgX11_0 C q_428 dX11_position_6 ?_
  refine tgX9_1 ts_iS0 C q_294 dX11_position_9 ?_
  refine ts_iload_n C dX11_position_12 rfl 1 rfl ?_
  refine ts_callVi C [ts_v p1] (mX4_positionOf hl ts_iS0) kX4_positionOf q_1557 (ts_lt ts_iS0 6 (by decide)) (shX4 ts_iS0) rfl rfl rfl (Nat.le_of_ble_eq_true rfl) ⟨Nat.le_of_ble_eq_true rfl, Nat.le_of_ble_eq_true rfl⟩ ⟨Nat.le_of_ble_eq_true rfl, Nat.le_of_ble_eq_true rfl⟩ dX11_position_13 (fun r3 M2 => ?_)
  exact ts_xr (ts_ireti C (Nat.le_of_ble_eq_true rfl) (Nat.le_of_ble_eq_true rfl) dX11_position_16)
def wX11_votesYes (p1 : Int) (Q : Int → ts_M → Prop) (X : String → ts_M → Prop) (M : ts_M) : Prop :=
  (wX11_checkSpoon p1 (fun M1 => (wX11_checkMotion  (fun M2 => (wX9_mainPosition 0 (fun r4 M3 => (wX9_saysYes 0 p1 r4 (fun r6 M5 => ((ts_w r6 = 0 ∨ ts_w r6 = 1) ∧ Q r6 M5)) M3)) M2)) X M1)) X M)
set_option maxRecDepth 100000 in
set_option maxHeartbeats 4000000 in
theorem mX11_votesYes {l : Launch} {g : ts_W} (hl : l.stackTraces = false) {p1 : Int} {Q : Int → ts_M → Prop} {X : String → ts_M → Prop} {M : ts_M} : wX11_votesYes p1 Q X M → ts_ConX l g yX11_votesYes cX11_votesYes 2 (some .boolean) 7 2 12 [.ref (ts_ad g 154), ts_v p1] M (ts_Ri Q) X := by
  intro h0
  refine ts_ConX.of hl (by decide) (Nat.le_of_ble_eq_true rfl) ?_
  intro p e s m args below meth c hx C
  revert h0
  unfold wX11_votesYes
  have hl0 : lv_args 0 [.ref (ts_ad g 154), ts_v p1] = [(0, .ref (ts_ad g 154)), (1, ts_v p1)] := rfl
  rw [hl0]
  refine ts_aload_n C dX11_votesYes_0 rfl 0 rfl ?_
  refine ts_iload_n C dX11_votesYes_1 rfl 1 rfl ?_
  refine ts_callXVv C hx [ts_v p1] (mX11_checkSpoon hl) kX11_checkSpoon q_1505 (by decide) shX11 rfl rfl rfl (Nat.le_of_ble_eq_true rfl) ⟨Nat.le_of_ble_eq_true rfl, Nat.le_of_ble_eq_true rfl⟩ ⟨Nat.le_of_ble_eq_true rfl, Nat.le_of_ble_eq_true rfl⟩ ⟨Nat.le_of_ble_eq_true rfl, Nat.le_of_ble_eq_true rfl⟩ dX11_votesYes_2 (fun M1 => ?_)
  refine ts_aload_n C dX11_votesYes_5 rfl 0 rfl ?_
  refine ts_callXVv C hx [] (mX11_checkMotion hl) kX11_checkMotion q_1649 (by decide) shX11 rfl rfl rfl (Nat.le_of_ble_eq_true rfl) ⟨Nat.le_of_ble_eq_true rfl, Nat.le_of_ble_eq_true rfl⟩ ⟨Nat.le_of_ble_eq_true rfl, Nat.le_of_ble_eq_true rfl⟩ ⟨Nat.le_of_ble_eq_true rfl, Nat.le_of_ble_eq_true rfl⟩ dX11_votesYes_6 (fun M2 => ?_)
  refine ts_aload_n C dX11_votesYes_9 rfl 0 rfl ?_
  refine tgX11_0 C q_428 dX11_votesYes_10 ?_
  refine ts_iload_n C dX11_votesYes_13 rfl 1 rfl ?_
  refine ts_aload_n C dX11_votesYes_14 rfl 0 rfl ?_
  refine tgX11_0 C q_428 dX11_votesYes_15 ?_
  refine ts_callVi C [] (mX9_mainPosition hl ts_iS0) kX9_mainPosition q_1670 (ts_lt0 ts_iS0) (shX9 ts_iS0) rfl rfl rfl (Nat.le_of_ble_eq_true rfl) ⟨Nat.le_of_ble_eq_true rfl, Nat.le_of_ble_eq_true rfl⟩ ⟨Nat.le_of_ble_eq_true rfl, Nat.le_of_ble_eq_true rfl⟩ dX11_votesYes_18 (fun r4 M3 => ?_)
  refine ts_callVi C [ts_v p1, ts_v r4] (mX9_saysYes hl ts_iS0) kX9_saysYes q_1671 (ts_lt0 ts_iS0) (shX9 ts_iS0) rfl rfl rfl (Nat.le_of_ble_eq_true rfl) ⟨Nat.le_of_ble_eq_true rfl, Nat.le_of_ble_eq_true rfl⟩ ⟨Nat.le_of_ble_eq_true rfl, Nat.le_of_ble_eq_true rfl⟩ dX11_votesYes_21 (fun r6 M5 => ?_)
  exact ts_xr (ts_zreti C (Nat.le_of_ble_eq_true rfl) (Nat.le_of_ble_eq_true rfl) dX11_votesYes_24)
def wX11_support (p1 : Int) (p2 : Int) (Q : Int → ts_M → Prop) (X : String → ts_M → Prop) (M : ts_M) : Prop :=
  (wX11_checkOnList p1 (fun M1 => (wX11_checkOnList p2 (fun M2 => (wX4_positionOf 0 p1 (fun r4 M3 => (wX4_positionOf 0 p2 (fun r6 M5 => (wX8_preferring 0 r4 r6 (fun r8 M7 => Q r8 M7) M5)) M3)) M2)) X M1)) X M)
set_option maxRecDepth 100000 in
set_option maxHeartbeats 4000000 in
theorem mX11_support {l : Launch} {g : ts_W} (hl : l.stackTraces = false) {p1 : Int} {p2 : Int} {Q : Int → ts_M → Prop} {X : String → ts_M → Prop} {M : ts_M} : wX11_support p1 p2 Q X M → ts_ConX l g yX11_support cX11_support 3 (some .int) 7 2 12 [.ref (ts_ad g 154), ts_v p1, ts_v p2] M (ts_Ri Q) X := by
  intro h0
  refine ts_ConX.of hl (by decide) (Nat.le_of_ble_eq_true rfl) ?_
  intro p e s m args below meth c hx C
  revert h0
  unfold wX11_support
  have hl0 : lv_args 0 [.ref (ts_ad g 154), ts_v p1, ts_v p2] = [(0, .ref (ts_ad g 154)), (1, ts_v p1), (2, ts_v p2)] := rfl
  rw [hl0]
  refine ts_aload_n C dX11_support_0 rfl 0 rfl ?_
  refine ts_iload_n C dX11_support_1 rfl 1 rfl ?_
  refine ts_callXVv C hx [ts_v p1] (mX11_checkOnList hl) kX11_checkOnList q_1551 (by decide) shX11 rfl rfl rfl (Nat.le_of_ble_eq_true rfl) ⟨Nat.le_of_ble_eq_true rfl, Nat.le_of_ble_eq_true rfl⟩ ⟨Nat.le_of_ble_eq_true rfl, Nat.le_of_ble_eq_true rfl⟩ ⟨Nat.le_of_ble_eq_true rfl, Nat.le_of_ble_eq_true rfl⟩ dX11_support_2 (fun M1 => ?_)
  refine ts_aload_n C dX11_support_5 rfl 0 rfl ?_
  refine ts_iload_n C dX11_support_6 rfl 2 rfl ?_
  refine ts_callXVv C hx [ts_v p2] (mX11_checkOnList hl) kX11_checkOnList q_1551 (by decide) shX11 rfl rfl rfl (Nat.le_of_ble_eq_true rfl) ⟨Nat.le_of_ble_eq_true rfl, Nat.le_of_ble_eq_true rfl⟩ ⟨Nat.le_of_ble_eq_true rfl, Nat.le_of_ble_eq_true rfl⟩ ⟨Nat.le_of_ble_eq_true rfl, Nat.le_of_ble_eq_true rfl⟩ dX11_support_7 (fun M2 => ?_)
  refine ts_aload_n C dX11_support_10 rfl 0 rfl ?_
  refine tgX11_0 C q_428 dX11_support_11 ?_
  refine tgX9_0 ts_iS0 C q_291 dX11_support_14 ?_
  refine ts_aload_n C dX11_support_17 rfl 0 rfl ?_
  refine tgX11_0 C q_428 dX11_support_18 ?_
  refine tgX9_1 ts_iS0 C q_294 dX11_support_21 ?_
  refine ts_iload_n C dX11_support_24 rfl 1 rfl ?_
  refine ts_callVi C [ts_v p1] (mX4_positionOf hl ts_iS0) kX4_positionOf q_1557 (ts_lt ts_iS0 6 (by decide)) (shX4 ts_iS0) rfl rfl rfl (Nat.le_of_ble_eq_true rfl) ⟨Nat.le_of_ble_eq_true rfl, Nat.le_of_ble_eq_true rfl⟩ ⟨Nat.le_of_ble_eq_true rfl, Nat.le_of_ble_eq_true rfl⟩ dX11_support_25 (fun r4 M3 => ?_)
  refine ts_aload_n C dX11_support_28 rfl 0 rfl ?_
  refine tgX11_0 C q_428 dX11_support_29 ?_
  refine tgX9_1 ts_iS0 C q_294 dX11_support_32 ?_
  refine ts_iload_n C dX11_support_35 rfl 2 rfl ?_
  refine ts_callVi C [ts_v p2] (mX4_positionOf hl ts_iS0) kX4_positionOf q_1557 (ts_lt ts_iS0 6 (by decide)) (shX4 ts_iS0) rfl rfl rfl (Nat.le_of_ble_eq_true rfl) ⟨Nat.le_of_ble_eq_true rfl, Nat.le_of_ble_eq_true rfl⟩ ⟨Nat.le_of_ble_eq_true rfl, Nat.le_of_ble_eq_true rfl⟩ dX11_support_36 (fun r6 M5 => ?_)
  refine ts_callVi C [ts_v r4, ts_v r6] (mX8_preferring hl ts_iS0) kX8_preferring q_1679 (ts_lt ts_iS0 1 (by decide)) (shX8 ts_iS0) rfl rfl rfl (Nat.le_of_ble_eq_true rfl) ⟨Nat.le_of_ble_eq_true rfl, Nat.le_of_ble_eq_true rfl⟩ ⟨Nat.le_of_ble_eq_true rfl, Nat.le_of_ble_eq_true rfl⟩ dX11_support_39 (fun r8 M7 => ?_)
  exact ts_xr (ts_ireti C (Nat.le_of_ble_eq_true rfl) (Nat.le_of_ble_eq_true rfl) dX11_support_42)
def wX11_isWet_B28   (Q : Int → ts_M → Prop) (X : String → ts_M → Prop)  (z0 : Int) (M : ts_M) : Prop :=
  ((ts_w z0 = 0 ∨ ts_w z0 = 1) ∧ Q z0 M)
def wX11_isWet (p1 : Int) (p2 : Int) (Q : Int → ts_M → Prop) (X : String → ts_M → Prop) (M : ts_M) : Prop :=
  (wX11_checkCell p1 p2 (fun M1 => (wX1_wetAt 0 p1 p2 (fun r3 M2 => ((r3 = 0 → wX11_isWet_B28 Q X 0 M2) ∧ (¬ (r3 = 0) → wX11_isWet_B28 Q X 1 M2))) M1)) X M)
set_option maxRecDepth 100000 in
set_option maxHeartbeats 4000000 in
theorem mX11_isWet {l : Launch} {g : ts_W} (hl : l.stackTraces = false) {p1 : Int} {p2 : Int} {Q : Int → ts_M → Prop} {X : String → ts_M → Prop} {M : ts_M} : wX11_isWet p1 p2 Q X M → ts_ConX l g yX11_isWet cX11_isWet 3 (some .boolean) 7 1 6 [.ref (ts_ad g 154), ts_v p1, ts_v p2] M (ts_Ri Q) X := by
  intro h0
  refine ts_ConX.of hl (by decide) (Nat.le_of_ble_eq_true rfl) ?_
  intro p e s m args below meth c hx C
  have H28 : ∀ (z0 : Int) (M : ts_M), wX11_isWet_B28   Q X z0 M → ts_V p l e (ts_rm 7 1 6) s m args below meth c g 3 1 6 (vx_MQ below (ts_Q g (ts_Ri Q)) (ts_X g X) args s 1 6 (ts_A g)) 28 [] [ts_v z0] M := by
    intro  z0 M
    unfold wX11_isWet_B28
    exact ts_xr (ts_zreti C (Nat.le_of_ble_eq_true rfl) (Nat.le_of_ble_eq_true rfl) dX11_isWet_28)
  revert h0
  unfold wX11_isWet
  have hl0 : lv_args 0 [.ref (ts_ad g 154), ts_v p1, ts_v p2] = [(0, .ref (ts_ad g 154)), (1, ts_v p1), (2, ts_v p2)] := rfl
  rw [hl0]
  refine ts_aload_n C dX11_isWet_0 rfl 0 rfl ?_
  refine ts_iload_n C dX11_isWet_1 rfl 1 rfl ?_
  refine ts_iload_n C dX11_isWet_2 rfl 2 rfl ?_
  refine ts_callXVv C hx [ts_v p1, ts_v p2] (mX11_checkCell hl) kX11_checkCell q_1720 (by decide) shX11 rfl rfl rfl (Nat.le_of_ble_eq_true rfl) ⟨Nat.le_of_ble_eq_true rfl, Nat.le_of_ble_eq_true rfl⟩ ⟨Nat.le_of_ble_eq_true rfl, Nat.le_of_ble_eq_true rfl⟩ ⟨Nat.le_of_ble_eq_true rfl, Nat.le_of_ble_eq_true rfl⟩ dX11_isWet_3 (fun M1 => ?_)
  refine ts_aload_n C dX11_isWet_6 rfl 0 rfl ?_
  refine tgX11_0 C q_428 dX11_isWet_7 ?_
  refine tgX9_3 ts_iS0 C q_298 dX11_isWet_10 ?_
  refine ts_iload_n C dX11_isWet_13 rfl 1 rfl ?_
  refine ts_iload_n C dX11_isWet_14 rfl 2 rfl ?_
  refine ts_callVl C [ts_v p1, ts_v p2] (mX1_wetAt hl ts_iS0) kX1_wetAt q_1726 (ts_lt ts_iS0 11 (by decide)) (shX1 ts_iS0) rfl rfl rfl (Nat.le_of_ble_eq_true rfl) ⟨Nat.le_of_ble_eq_true rfl, Nat.le_of_ble_eq_true rfl⟩ ⟨Nat.le_of_ble_eq_true rfl, Nat.le_of_ble_eq_true rfl⟩ dX11_isWet_15 (fun r3 M2 => ?_)
  refine ts_lconst C dX11_isWet_18 0 rfl ?_
  refine ts_lcmp C dX11_isWet_19 ?_
  refine ts_lif_eq C 27 dX11_isWet_20 rfl ?_ ?_
  · refine ts_iconst C dX11_isWet_27 0 rfl ?_
    exact ts_sub [] rfl (H28 _ _)
  · refine ts_iconst C dX11_isWet_23 1 rfl ?_
    refine ts_goto C 28 dX11_isWet_24 rfl ?_
    exact ts_sub [] rfl (H28 _ _)
def wX11_puddle (p1 : Int) (p2 : Int) (Q : Int → ts_M → Prop) (X : String → ts_M → Prop) (M : ts_M) : Prop :=
  (wX11_checkCell p1 p2 (fun M1 => (wX1_cell p1 p2 (fun r3 M2 => (wX1_walkFrom 0 r3 (fun r5 M4 => (wJ13_bitCount_95d88 r5 (fun r7 M6 => Q r7 M6) M4)) M2)) M1)) X M)
set_option maxRecDepth 100000 in
set_option maxHeartbeats 4000000 in
theorem mX11_puddle {l : Launch} {g : ts_W} (hl : l.stackTraces = false) {p1 : Int} {p2 : Int} {Q : Int → ts_M → Prop} {X : String → ts_M → Prop} {M : ts_M} : wX11_puddle p1 p2 Q X M → ts_ConX l g yX11_puddle cX11_puddle 3 (some .int) 7 1 6 [.ref (ts_ad g 154), ts_v p1, ts_v p2] M (ts_Ri Q) X := by
  intro h0
  refine ts_ConX.of hl (by decide) (Nat.le_of_ble_eq_true rfl) ?_
  intro p e s m args below meth c hx C
  revert h0
  unfold wX11_puddle
  have hl0 : lv_args 0 [.ref (ts_ad g 154), ts_v p1, ts_v p2] = [(0, .ref (ts_ad g 154)), (1, ts_v p1), (2, ts_v p2)] := rfl
  rw [hl0]
  refine ts_aload_n C dX11_puddle_0 rfl 0 rfl ?_
  refine ts_iload_n C dX11_puddle_1 rfl 1 rfl ?_
  refine ts_iload_n C dX11_puddle_2 rfl 2 rfl ?_
  refine ts_callXVv C hx [ts_v p1, ts_v p2] (mX11_checkCell hl) kX11_checkCell q_1720 (by decide) shX11 rfl rfl rfl (Nat.le_of_ble_eq_true rfl) ⟨Nat.le_of_ble_eq_true rfl, Nat.le_of_ble_eq_true rfl⟩ ⟨Nat.le_of_ble_eq_true rfl, Nat.le_of_ble_eq_true rfl⟩ ⟨Nat.le_of_ble_eq_true rfl, Nat.le_of_ble_eq_true rfl⟩ dX11_puddle_3 (fun M1 => ?_)
  refine ts_aload_n C dX11_puddle_6 rfl 0 rfl ?_
  refine tgX11_0 C q_428 dX11_puddle_7 ?_
  refine tgX9_3 ts_iS0 C q_298 dX11_puddle_10 ?_
  refine ts_iload_n C dX11_puddle_13 rfl 1 rfl ?_
  refine ts_iload_n C dX11_puddle_14 rfl 2 rfl ?_
  refine ts_callSl C [ts_v p1, ts_v p2] (mX1_cell hl) kX1_cell q_1734 rfl rfl (Nat.le_of_ble_eq_true rfl) ⟨Nat.le_of_ble_eq_true rfl, Nat.le_of_ble_eq_true rfl⟩ ⟨Nat.le_of_ble_eq_true rfl, Nat.le_of_ble_eq_true rfl⟩ dX11_puddle_15 (fun r3 M2 => ?_)
  refine ts_callVl C [.long r3] (mX1_walkFrom hl ts_iS0) kX1_walkFrom q_1735 (ts_lt ts_iS0 11 (by decide)) (shX1 ts_iS0) rfl rfl rfl (Nat.le_of_ble_eq_true rfl) ⟨Nat.le_of_ble_eq_true rfl, Nat.le_of_ble_eq_true rfl⟩ ⟨Nat.le_of_ble_eq_true rfl, Nat.le_of_ble_eq_true rfl⟩ dX11_puddle_18 (fun r5 M4 => ?_)
  refine ts_callSi C [.long r5] (mJ13_bitCount_95d88 hl) kJ13_bitCount_95d88 q_531 rfl rfl (Nat.le_of_ble_eq_true rfl) ⟨Nat.le_of_ble_eq_true rfl, Nat.le_of_ble_eq_true rfl⟩ ⟨Nat.le_of_ble_eq_true rfl, Nat.le_of_ble_eq_true rfl⟩ dX11_puddle_21 (fun r7 M6 => ?_)
  exact ts_xr (ts_ireti C (Nat.le_of_ble_eq_true rfl) (Nat.le_of_ble_eq_true rfl) dX11_puddle_24)
def wX11_puddleByGroups (p1 : Int) (p2 : Int) (Q : Int → ts_M → Prop) (X : String → ts_M → Prop) (M : ts_M) : Prop :=
  (wX11_checkCell p1 p2 (fun M1 => (wX1_joinGroups 0 (fun M2 => (wX1_cell p1 p2 (fun r4 M3 => (wX1_groupOf 0 r4 (fun r6 M5 => (wJ13_bitCount_95d88 r6 (fun r8 M7 => Q r8 M7) M5)) M3)) M2)) M1)) X M)
set_option maxRecDepth 100000 in
set_option maxHeartbeats 4000000 in
theorem mX11_puddleByGroups {l : Launch} {g : ts_W} (hl : l.stackTraces = false) {p1 : Int} {p2 : Int} {Q : Int → ts_M → Prop} {X : String → ts_M → Prop} {M : ts_M} : wX11_puddleByGroups p1 p2 Q X M → ts_ConX l g yX11_puddleByGroups cX11_puddleByGroups 3 (some .int) 7 1 6 [.ref (ts_ad g 154), ts_v p1, ts_v p2] M (ts_Ri Q) X := by
  intro h0
  refine ts_ConX.of hl (by decide) (Nat.le_of_ble_eq_true rfl) ?_
  intro p e s m args below meth c hx C
  revert h0
  unfold wX11_puddleByGroups
  have hl0 : lv_args 0 [.ref (ts_ad g 154), ts_v p1, ts_v p2] = [(0, .ref (ts_ad g 154)), (1, ts_v p1), (2, ts_v p2)] := rfl
  rw [hl0]
  refine ts_aload_n C dX11_puddleByGroups_0 rfl 0 rfl ?_
  refine ts_iload_n C dX11_puddleByGroups_1 rfl 1 rfl ?_
  refine ts_iload_n C dX11_puddleByGroups_2 rfl 2 rfl ?_
  refine ts_callXVv C hx [ts_v p1, ts_v p2] (mX11_checkCell hl) kX11_checkCell q_1720 (by decide) shX11 rfl rfl rfl (Nat.le_of_ble_eq_true rfl) ⟨Nat.le_of_ble_eq_true rfl, Nat.le_of_ble_eq_true rfl⟩ ⟨Nat.le_of_ble_eq_true rfl, Nat.le_of_ble_eq_true rfl⟩ ⟨Nat.le_of_ble_eq_true rfl, Nat.le_of_ble_eq_true rfl⟩ dX11_puddleByGroups_3 (fun M1 => ?_)
  refine ts_aload_n C dX11_puddleByGroups_6 rfl 0 rfl ?_
  refine tgX11_0 C q_428 dX11_puddleByGroups_7 ?_
  refine tgX9_3 ts_iS0 C q_298 dX11_puddleByGroups_10 ?_
  refine ts_callVv C [] (mX1_joinGroups hl ts_iS0) kX1_joinGroups q_1743 (ts_lt ts_iS0 11 (by decide)) (shX1 ts_iS0) rfl rfl rfl (Nat.le_of_ble_eq_true rfl) ⟨Nat.le_of_ble_eq_true rfl, Nat.le_of_ble_eq_true rfl⟩ ⟨Nat.le_of_ble_eq_true rfl, Nat.le_of_ble_eq_true rfl⟩ dX11_puddleByGroups_13 (fun M2 => ?_)
  refine ts_aload_n C dX11_puddleByGroups_16 rfl 0 rfl ?_
  refine tgX11_0 C q_428 dX11_puddleByGroups_17 ?_
  refine tgX9_3 ts_iS0 C q_298 dX11_puddleByGroups_20 ?_
  refine ts_iload_n C dX11_puddleByGroups_23 rfl 1 rfl ?_
  refine ts_iload_n C dX11_puddleByGroups_24 rfl 2 rfl ?_
  refine ts_callSl C [ts_v p1, ts_v p2] (mX1_cell hl) kX1_cell q_1734 rfl rfl (Nat.le_of_ble_eq_true rfl) ⟨Nat.le_of_ble_eq_true rfl, Nat.le_of_ble_eq_true rfl⟩ ⟨Nat.le_of_ble_eq_true rfl, Nat.le_of_ble_eq_true rfl⟩ dX11_puddleByGroups_25 (fun r4 M3 => ?_)
  refine ts_callVl C [.long r4] (mX1_groupOf hl ts_iS0) kX1_groupOf q_1744 (ts_lt ts_iS0 11 (by decide)) (shX1 ts_iS0) rfl rfl rfl (Nat.le_of_ble_eq_true rfl) ⟨Nat.le_of_ble_eq_true rfl, Nat.le_of_ble_eq_true rfl⟩ ⟨Nat.le_of_ble_eq_true rfl, Nat.le_of_ble_eq_true rfl⟩ dX11_puddleByGroups_28 (fun r6 M5 => ?_)
  refine ts_callSi C [.long r6] (mJ13_bitCount_95d88 hl) kJ13_bitCount_95d88 q_531 rfl rfl (Nat.le_of_ble_eq_true rfl) ⟨Nat.le_of_ble_eq_true rfl, Nat.le_of_ble_eq_true rfl⟩ ⟨Nat.le_of_ble_eq_true rfl, Nat.le_of_ble_eq_true rfl⟩ dX11_puddleByGroups_31 (fun r8 M7 => ?_)
  exact ts_xr (ts_ireti C (Nat.le_of_ble_eq_true rfl) (Nat.le_of_ble_eq_true rfl) dX11_puddleByGroups_34)
def wX11_spoonBySugar_B18   (Q : Int → ts_M → Prop) (X : String → ts_M → Prop)   (M : ts_M) : Prop :=
  X "java/util/NoSuchElementException" M
def wX11_spoonBySugar (p1 : Int) (Q : Int → ts_M → Prop) (X : String → ts_M → Prop) (M : ts_M) : Prop :=
  ((ts_w p1 < 0 → wX11_spoonBySugar_B18 Q X M) ∧ (¬ (ts_w p1 < 0) → ((ts_w p1 < ts_w (M.1 1 4) → (wX8_atSugarRank 0 p1 (fun r2 M1 => Q r2 M1) M)) ∧ (¬ (ts_w p1 < ts_w (M.1 1 4)) → wX11_spoonBySugar_B18 Q X M))))
set_option maxRecDepth 100000 in
set_option maxHeartbeats 4000000 in
theorem mX11_spoonBySugar {l : Launch} {g : ts_W} (hl : l.stackTraces = false) {p1 : Int} {Q : Int → ts_M → Prop} {X : String → ts_M → Prop} {M : ts_M} : wX11_spoonBySugar p1 Q X M → ts_ConX l g yX11_spoonBySugar cX11_spoonBySugar 2 (some .int) 6 1 6 [.ref (ts_ad g 154), ts_v p1] M (ts_Ri Q) X := by
  intro h0
  refine ts_ConX.of hl (by decide) (Nat.le_of_ble_eq_true rfl) ?_
  intro p e s m args below meth c hx C
  have H18 : ∀  (M : ts_M), wX11_spoonBySugar_B18   Q X  M → ts_V p l e (ts_rm 6 1 6) s m args below meth c g 2 0 0 (vx_MQ below (ts_Q g (ts_Ri Q)) (ts_X g X) args s 1 6 (ts_A g)) 18 [] [] M := by
    intro   M
    unfold wX11_spoonBySugar_B18
    exact ts_thrNW (text := "there is no such rank") (sx := 214) (r := ["java/lang/Exception"]) (Y := "java/lang/RuntimeException") (ix := 13) (rx := ts_rx13) C hx egNS_ok enNS_ok eaNS eoNS q_1214 q_143 (by decide) (by decide +kernel) (by decide +kernel) (by decide +kernel) ts_rx13_0 ts_rx13_1 ts_rx13_2 ts_rx13_5 dX11_spoonBySugar_18 dX11_spoonBySugar_21 dX11_spoonBySugar_22 dX11_spoonBySugar_25 dX11_spoonBySugar_28 (Nat.le_of_ble_eq_true rfl) (Nat.le_of_ble_eq_true rfl) (Nat.le_of_ble_eq_true rfl) (Nat.le_of_ble_eq_true rfl) (Nat.le_of_ble_eq_true rfl) (Nat.le_of_ble_eq_true rfl)
  revert h0
  unfold wX11_spoonBySugar
  have hl0 : lv_args 0 [.ref (ts_ad g 154), ts_v p1] = [(0, .ref (ts_ad g 154)), (1, ts_v p1)] := rfl
  rw [hl0]
  refine ts_iload_n C dX11_spoonBySugar_0 rfl 1 rfl ?_
  refine ts_cm0_lt C rfl 18 dX11_spoonBySugar_1 rfl ?_ ?_
  · exact ts_sub [] rfl (H18 _)
  · refine ts_iload_n C dX11_spoonBySugar_4 rfl 1 rfl ?_
    refine ts_aload_n C dX11_spoonBySugar_5 rfl 0 rfl ?_
    refine tgX11_0 C q_428 dX11_spoonBySugar_6 ?_
    refine tgX9_0 ts_iS0 C q_291 dX11_spoonBySugar_9 ?_
    refine tgX8_4 ts_iS0 C q_192 dX11_spoonBySugar_12 ?_
    refine ts_cmp_lt C rfl rfl 29 dX11_spoonBySugar_15 rfl ?_ ?_
    · refine ts_aload_n C dX11_spoonBySugar_29 rfl 0 rfl ?_
      refine tgX11_0 C q_428 dX11_spoonBySugar_30 ?_
      refine tgX9_0 ts_iS0 C q_291 dX11_spoonBySugar_33 ?_
      refine ts_iload_n C dX11_spoonBySugar_36 rfl 1 rfl ?_
      refine ts_callVi C [ts_v p1] (mX8_atSugarRank hl ts_iS0) kX8_atSugarRank q_1753 (ts_lt ts_iS0 1 (by decide)) (shX8 ts_iS0) rfl rfl rfl (Nat.le_of_ble_eq_true rfl) ⟨Nat.le_of_ble_eq_true rfl, Nat.le_of_ble_eq_true rfl⟩ ⟨Nat.le_of_ble_eq_true rfl, Nat.le_of_ble_eq_true rfl⟩ dX11_spoonBySugar_37 (fun r2 M1 => ?_)
      exact ts_xr (ts_ireti C (Nat.le_of_ble_eq_true rfl) (Nat.le_of_ble_eq_true rfl) dX11_spoonBySugar_40)
    · exact ts_sub [] rfl (H18 _)
def wX11_minute (p1 : Int) (Q : Int → ts_M → Prop) (X : String → ts_M → Prop) (M : ts_M) : Prop :=
  (wX9_keepsMinute 0 p1 (fun r2 M1 => ((¬ (ts_w r2 = 0) → (wX9_minuteAt 0 p1 (fun r4 M3 => Q r4 M3) M1)) ∧ (ts_w r2 = 0 → X "java/util/NoSuchElementException" M1))) M)
set_option maxRecDepth 100000 in
set_option maxHeartbeats 4000000 in
theorem mX11_minute {l : Launch} {g : ts_W} (hl : l.stackTraces = false) {p1 : Int} {Q : Int → ts_M → Prop} {X : String → ts_M → Prop} {M : ts_M} : wX11_minute p1 Q X M → ts_ConX l g yX11_minute cX11_minute 2 (some .int) 6 1 6 [.ref (ts_ad g 154), ts_v p1] M (ts_Ri Q) X := by
  intro h0
  refine ts_ConX.of hl (by decide) (Nat.le_of_ble_eq_true rfl) ?_
  intro p e s m args below meth c hx C
  revert h0
  unfold wX11_minute
  have hl0 : lv_args 0 [.ref (ts_ad g 154), ts_v p1] = [(0, .ref (ts_ad g 154)), (1, ts_v p1)] := rfl
  rw [hl0]
  refine ts_aload_n C dX11_minute_0 rfl 0 rfl ?_
  refine tgX11_0 C q_428 dX11_minute_1 ?_
  refine ts_iload_n C dX11_minute_4 rfl 1 rfl ?_
  refine ts_callVi C [ts_v p1] (mX9_keepsMinute hl ts_iS0) kX9_keepsMinute q_1768 (ts_lt0 ts_iS0) (shX9 ts_iS0) rfl rfl rfl (Nat.le_of_ble_eq_true rfl) ⟨Nat.le_of_ble_eq_true rfl, Nat.le_of_ble_eq_true rfl⟩ ⟨Nat.le_of_ble_eq_true rfl, Nat.le_of_ble_eq_true rfl⟩ dX11_minute_5 (fun r2 M1 => ?_)
  refine ts_cm0_ne C rfl 22 dX11_minute_8 rfl ?_ ?_
  · refine ts_aload_n C dX11_minute_22 rfl 0 rfl ?_
    refine tgX11_0 C q_428 dX11_minute_23 ?_
    refine ts_iload_n C dX11_minute_26 rfl 1 rfl ?_
    refine ts_callVi C [ts_v p1] (mX9_minuteAt hl ts_iS0) kX9_minuteAt q_1773 (ts_lt0 ts_iS0) (shX9 ts_iS0) rfl rfl rfl (Nat.le_of_ble_eq_true rfl) ⟨Nat.le_of_ble_eq_true rfl, Nat.le_of_ble_eq_true rfl⟩ ⟨Nat.le_of_ble_eq_true rfl, Nat.le_of_ble_eq_true rfl⟩ dX11_minute_27 (fun r4 M3 => ?_)
    exact ts_xr (ts_ireti C (Nat.le_of_ble_eq_true rfl) (Nat.le_of_ble_eq_true rfl) dX11_minute_30)
  · exact ts_thrNW (text := "the minutes keep no such place") (sx := 215) (r := ["java/lang/Exception"]) (Y := "java/lang/RuntimeException") (ix := 13) (rx := ts_rx13) C hx egNS_ok enNS_ok eaNS eoNS q_1214 q_143 (by decide) (by decide +kernel) (by decide +kernel) (by decide +kernel) ts_rx13_0 ts_rx13_1 ts_rx13_2 ts_rx13_5 dX11_minute_11 dX11_minute_14 dX11_minute_15 dX11_minute_18 dX11_minute_21 (Nat.le_of_ble_eq_true rfl) (Nat.le_of_ble_eq_true rfl) (Nat.le_of_ble_eq_true rfl) (Nat.le_of_ble_eq_true rfl) (Nat.le_of_ble_eq_true rfl) (Nat.le_of_ble_eq_true rfl)
def wX11_meanStance (Q : UInt64 → ts_M → Prop) (X : String → ts_M → Prop) (M : ts_M) : Prop :=
  (∀ x1 : Int, x1 = M.1 1 4 → ((¬ (ts_w x1 = 0) → (wX8_stanceSum 0 (fun r3 M2 => (vf_n64 (FP.ddiv (FP.i2d (ts_I r3)) (FP.i2d (ts_I x1))) ∧ Q (FP.ddiv (FP.i2d (ts_I r3)) (FP.i2d (ts_I x1))) M2)) M)) ∧ (ts_w x1 = 0 → X "java/lang/ArithmeticException" M)))
set_option maxRecDepth 100000 in
set_option maxHeartbeats 4000000 in
theorem mX11_meanStance {l : Launch} {g : ts_W} (hl : l.stackTraces = false) {Q : UInt64 → ts_M → Prop} {X : String → ts_M → Prop} {M : ts_M} : wX11_meanStance Q X M → ts_ConX l g yX11_meanStance cX11_meanStance 2 (some .double) 6 1 6 [.ref (ts_ad g 154)] M (ts_Rd Q) X := by
  intro h0
  refine ts_ConX.of hl (by decide) (Nat.le_of_ble_eq_true rfl) ?_
  intro p e s m args below meth c hx C
  revert h0
  unfold wX11_meanStance
  have hl0 : lv_args 0 [.ref (ts_ad g 154)] = [(0, .ref (ts_ad g 154))] := rfl
  rw [hl0]
  refine ts_aload_n C dX11_meanStance_0 rfl 0 rfl ?_
  refine tgX11_0 C q_428 dX11_meanStance_1 ?_
  refine tgX9_0 ts_iS0 C q_291 dX11_meanStance_4 ?_
  refine tgX8_4 ts_iS0 C q_192 dX11_meanStance_7 ?_
  refine ts_istore_n C dX11_meanStance_10 rfl (by decide) (lv' := fun x1 => [(1, ts_v x1), (0, .ref (ts_ad g 154))]) (fun _ => rfl) (fun x1 => ?_)
  refine ts_iload_n C dX11_meanStance_11 rfl 0 rfl ?_
  refine ts_cm0_ne C rfl 26 dX11_meanStance_12 rfl ?_ ?_
  · refine ts_aload_n C dX11_meanStance_26 rfl 1 rfl ?_
    refine tgX11_0 C q_428 dX11_meanStance_27 ?_
    refine tgX9_0 ts_iS0 C q_291 dX11_meanStance_30 ?_
    refine ts_callVi C [] (mX8_stanceSum hl ts_iS0) kX8_stanceSum q_1801 (ts_lt ts_iS0 1 (by decide)) (shX8 ts_iS0) rfl rfl rfl (Nat.le_of_ble_eq_true rfl) ⟨Nat.le_of_ble_eq_true rfl, Nat.le_of_ble_eq_true rfl⟩ ⟨Nat.le_of_ble_eq_true rfl, Nat.le_of_ble_eq_true rfl⟩ dX11_meanStance_33 (fun r3 M2 => ?_)
    refine ts_i2d C dX11_meanStance_36 ?_
    refine ts_iload_n C dX11_meanStance_37 rfl 0 rfl ?_
    refine ts_i2d C dX11_meanStance_38 ?_
    refine ts_ddiv C dX11_meanStance_39 ?_
    exact ts_xr (ts_dreti C (Nat.le_of_ble_eq_true rfl) (Nat.le_of_ble_eq_true rfl) dX11_meanStance_40)
  · exact ts_thrW (text := "there are no spoons") (sx := 216) (names := ["java/lang/RuntimeException", "java/lang/Exception"]) C hx egAR_ok enAR_ok eaAR eoAR q_1798 q_154 (by decide) (by decide +kernel) (by decide +kernel) dX11_meanStance_15 dX11_meanStance_18 dX11_meanStance_19 dX11_meanStance_22 dX11_meanStance_25 (Nat.le_of_ble_eq_true rfl) (Nat.le_of_ble_eq_true rfl) (Nat.le_of_ble_eq_true rfl) (Nat.le_of_ble_eq_true rfl) (Nat.le_of_ble_eq_true rfl) (Nat.le_of_ble_eq_true rfl)
def wX11_yesVotes (Q : Int → ts_M → Prop) (X : String → ts_M → Prop) (M : ts_M) : Prop :=
  (wX11_checkMotion  (fun M1 => (wX9_yesWeight 0 (fun r3 M2 => Q r3 M2) M1)) X M)
set_option maxRecDepth 100000 in
set_option maxHeartbeats 4000000 in
theorem mX11_yesVotes {l : Launch} {g : ts_W} (hl : l.stackTraces = false) {Q : Int → ts_M → Prop} {X : String → ts_M → Prop} {M : ts_M} : wX11_yesVotes Q X M → ts_ConX l g yX11_yesVotes cX11_yesVotes 1 (some .int) 7 1 6 [.ref (ts_ad g 154)] M (ts_Ri Q) X := by
  intro h0
  refine ts_ConX.of hl (by decide) (Nat.le_of_ble_eq_true rfl) ?_
  intro p e s m args below meth c hx C
  revert h0
  unfold wX11_yesVotes
  have hl0 : lv_args 0 [.ref (ts_ad g 154)] = [(0, .ref (ts_ad g 154))] := rfl
  rw [hl0]
  refine ts_aload_n C dX11_yesVotes_0 rfl 0 rfl ?_
  refine ts_callXVv C hx [] (mX11_checkMotion hl) kX11_checkMotion q_1649 (by decide) shX11 rfl rfl rfl (Nat.le_of_ble_eq_true rfl) ⟨Nat.le_of_ble_eq_true rfl, Nat.le_of_ble_eq_true rfl⟩ ⟨Nat.le_of_ble_eq_true rfl, Nat.le_of_ble_eq_true rfl⟩ ⟨Nat.le_of_ble_eq_true rfl, Nat.le_of_ble_eq_true rfl⟩ dX11_yesVotes_1 (fun M1 => ?_)
  refine ts_aload_n C dX11_yesVotes_4 rfl 0 rfl ?_
  refine tgX11_0 C q_428 dX11_yesVotes_5 ?_
  refine ts_callVi C [] (mX9_yesWeight hl ts_iS0) kX9_yesWeight q_1654 (ts_lt0 ts_iS0) (shX9 ts_iS0) rfl rfl rfl (Nat.le_of_ble_eq_true rfl) ⟨Nat.le_of_ble_eq_true rfl, Nat.le_of_ble_eq_true rfl⟩ ⟨Nat.le_of_ble_eq_true rfl, Nat.le_of_ble_eq_true rfl⟩ dX11_yesVotes_8 (fun r3 M2 => ?_)
  exact ts_xr (ts_ireti C (Nat.le_of_ble_eq_true rfl) (Nat.le_of_ble_eq_true rfl) dX11_yesVotes_11)
def wX11_wouldPass (Q : Int → ts_M → Prop) (X : String → ts_M → Prop) (M : ts_M) : Prop :=
  (wX11_checkMotion  (fun M1 => (wX9_yesWeight 0 (fun r3 M2 => (wX9_isEnough 0 r3 (fun r5 M4 => ((ts_w r5 = 0 ∨ ts_w r5 = 1) ∧ Q r5 M4)) M2)) M1)) X M)
set_option maxRecDepth 100000 in
set_option maxHeartbeats 4000000 in
theorem mX11_wouldPass {l : Launch} {g : ts_W} (hl : l.stackTraces = false) {Q : Int → ts_M → Prop} {X : String → ts_M → Prop} {M : ts_M} : wX11_wouldPass Q X M → ts_ConX l g yX11_wouldPass cX11_wouldPass 1 (some .boolean) 7 1 6 [.ref (ts_ad g 154)] M (ts_Ri Q) X := by
  intro h0
  refine ts_ConX.of hl (by decide) (Nat.le_of_ble_eq_true rfl) ?_
  intro p e s m args below meth c hx C
  revert h0
  unfold wX11_wouldPass
  have hl0 : lv_args 0 [.ref (ts_ad g 154)] = [(0, .ref (ts_ad g 154))] := rfl
  rw [hl0]
  refine ts_aload_n C dX11_wouldPass_0 rfl 0 rfl ?_
  refine ts_callXVv C hx [] (mX11_checkMotion hl) kX11_checkMotion q_1649 (by decide) shX11 rfl rfl rfl (Nat.le_of_ble_eq_true rfl) ⟨Nat.le_of_ble_eq_true rfl, Nat.le_of_ble_eq_true rfl⟩ ⟨Nat.le_of_ble_eq_true rfl, Nat.le_of_ble_eq_true rfl⟩ ⟨Nat.le_of_ble_eq_true rfl, Nat.le_of_ble_eq_true rfl⟩ dX11_wouldPass_1 (fun M1 => ?_)
  refine ts_aload_n C dX11_wouldPass_4 rfl 0 rfl ?_
  refine tgX11_0 C q_428 dX11_wouldPass_5 ?_
  refine ts_aload_n C dX11_wouldPass_8 rfl 0 rfl ?_
  refine tgX11_0 C q_428 dX11_wouldPass_9 ?_
  refine ts_callVi C [] (mX9_yesWeight hl ts_iS0) kX9_yesWeight q_1654 (ts_lt0 ts_iS0) (shX9 ts_iS0) rfl rfl rfl (Nat.le_of_ble_eq_true rfl) ⟨Nat.le_of_ble_eq_true rfl, Nat.le_of_ble_eq_true rfl⟩ ⟨Nat.le_of_ble_eq_true rfl, Nat.le_of_ble_eq_true rfl⟩ dX11_wouldPass_12 (fun r3 M2 => ?_)
  refine ts_callVi C [ts_v r3] (mX9_isEnough hl ts_iS0) kX9_isEnough q_1662 (ts_lt0 ts_iS0) (shX9 ts_iS0) rfl rfl rfl (Nat.le_of_ble_eq_true rfl) ⟨Nat.le_of_ble_eq_true rfl, Nat.le_of_ble_eq_true rfl⟩ ⟨Nat.le_of_ble_eq_true rfl, Nat.le_of_ble_eq_true rfl⟩ dX11_wouldPass_15 (fun r5 M4 => ?_)
  exact ts_xr (ts_zreti C (Nat.le_of_ble_eq_true rfl) (Nat.le_of_ble_eq_true rfl) dX11_wouldPass_18)
def wX11_fewestDisagreementsByOrders (Q : Int → ts_M → Prop) (M : ts_M) : Prop :=
  (wX5_survey 0 (fun M1 => (wX5_fewestByTrying  (fun r3 M2 => Q r3 M2) M1)) M)
set_option maxRecDepth 100000 in
set_option maxHeartbeats 4000000 in
theorem mX11_fewestDisagreementsByOrders {l : Launch} {g : ts_W} (hl : l.stackTraces = false) {Q : Int → ts_M → Prop} {M : ts_M} : wX11_fewestDisagreementsByOrders Q M → ts_Con l g yX11_fewestDisagreementsByOrders cX11_fewestDisagreementsByOrders 1 (some .int) 10 0 0 [.ref (ts_ad g 154)] M (ts_Ri Q) := by
  intro h0
  refine ts_Con.of hl (by decide) (Nat.le_of_ble_eq_true rfl) ?_
  intro p e s m args below meth c C
  revert h0
  unfold wX11_fewestDisagreementsByOrders
  have hl0 : lv_args 0 [.ref (ts_ad g 154)] = [(0, .ref (ts_ad g 154))] := rfl
  rw [hl0]
  refine ts_aload_n C dX11_fewestDisagreementsByOrders_0 rfl 0 rfl ?_
  refine tgX11_4 C q_432 dX11_fewestDisagreementsByOrders_1 ?_
  refine ts_aload_n C dX11_fewestDisagreementsByOrders_4 rfl 0 rfl ?_
  refine tgX11_0 C q_428 dX11_fewestDisagreementsByOrders_5 ?_
  refine ts_callVv C [.ref (ts_ad g 0)] (mX5_survey hl ts_iS0) kX5_survey q_479 (by decide) shX5 rfl rfl rfl (Nat.le_of_ble_eq_true rfl) ⟨Nat.le_of_ble_eq_true rfl, Nat.le_of_ble_eq_true rfl⟩ ⟨Nat.le_of_ble_eq_true rfl, Nat.le_of_ble_eq_true rfl⟩ dX11_fewestDisagreementsByOrders_8 (fun M1 => ?_)
  refine ts_aload_n C dX11_fewestDisagreementsByOrders_11 rfl 0 rfl ?_
  refine tgX11_4 C q_432 dX11_fewestDisagreementsByOrders_12 ?_
  refine ts_callVi C [] (mX5_fewestByTrying hl) kX5_fewestByTrying q_520 (by decide) shX5 rfl rfl rfl (Nat.le_of_ble_eq_true rfl) ⟨Nat.le_of_ble_eq_true rfl, Nat.le_of_ble_eq_true rfl⟩ ⟨Nat.le_of_ble_eq_true rfl, Nat.le_of_ble_eq_true rfl⟩ dX11_fewestDisagreementsByOrders_15 (fun r3 M2 => ?_)
  exact ts_ireti C (Nat.zero_le _) (Nat.zero_le _) dX11_fewestDisagreementsByOrders_18
def wX11_bestOrder (p1 : Int) (Q : Int → ts_M → Prop) (X : String → ts_M → Prop) (M : ts_M) : Prop :=
  (wX11_checkPlaceOnList p1 (fun M1 => (wX5_survey 0 (fun M2 => (wX5_idInBestOrder 0 p1 (fun r4 M3 => Q r4 M3) M2)) M1)) X M)
set_option maxRecDepth 100000 in
set_option maxHeartbeats 4000000 in
theorem mX11_bestOrder {l : Launch} {g : ts_W} (hl : l.stackTraces = false) {p1 : Int} {Q : Int → ts_M → Prop} {X : String → ts_M → Prop} {M : ts_M} : wX11_bestOrder p1 Q X M → ts_ConX l g yX11_bestOrder cX11_bestOrder 2 (some .int) 7 1 6 [.ref (ts_ad g 154), ts_v p1] M (ts_Ri Q) X := by
  intro h0
  refine ts_ConX.of hl (by decide) (Nat.le_of_ble_eq_true rfl) ?_
  intro p e s m args below meth c hx C
  revert h0
  unfold wX11_bestOrder
  have hl0 : lv_args 0 [.ref (ts_ad g 154), ts_v p1] = [(0, .ref (ts_ad g 154)), (1, ts_v p1)] := rfl
  rw [hl0]
  refine ts_aload_n C dX11_bestOrder_0 rfl 0 rfl ?_
  refine ts_iload_n C dX11_bestOrder_1 rfl 1 rfl ?_
  refine ts_callXVv C hx [ts_v p1] (mX11_checkPlaceOnList hl) kX11_checkPlaceOnList q_1539 (by decide) shX11 rfl rfl rfl (Nat.le_of_ble_eq_true rfl) ⟨Nat.le_of_ble_eq_true rfl, Nat.le_of_ble_eq_true rfl⟩ ⟨Nat.le_of_ble_eq_true rfl, Nat.le_of_ble_eq_true rfl⟩ ⟨Nat.le_of_ble_eq_true rfl, Nat.le_of_ble_eq_true rfl⟩ dX11_bestOrder_2 (fun M1 => ?_)
  refine ts_aload_n C dX11_bestOrder_5 rfl 0 rfl ?_
  refine tgX11_4 C q_432 dX11_bestOrder_6 ?_
  refine ts_aload_n C dX11_bestOrder_9 rfl 0 rfl ?_
  refine tgX11_0 C q_428 dX11_bestOrder_10 ?_
  refine ts_callVv C [.ref (ts_ad g 0)] (mX5_survey hl ts_iS0) kX5_survey q_479 (by decide) shX5 rfl rfl rfl (Nat.le_of_ble_eq_true rfl) ⟨Nat.le_of_ble_eq_true rfl, Nat.le_of_ble_eq_true rfl⟩ ⟨Nat.le_of_ble_eq_true rfl, Nat.le_of_ble_eq_true rfl⟩ dX11_bestOrder_13 (fun M2 => ?_)
  refine ts_aload_n C dX11_bestOrder_16 rfl 0 rfl ?_
  refine tgX11_4 C q_432 dX11_bestOrder_17 ?_
  refine ts_iload_n C dX11_bestOrder_20 rfl 1 rfl ?_
  refine ts_aload_n C dX11_bestOrder_21 rfl 0 rfl ?_
  refine tgX11_0 C q_428 dX11_bestOrder_22 ?_
  refine tgX9_1 ts_iS0 C q_294 dX11_bestOrder_25 ?_
  refine ts_callVi C [ts_v p1, .ref (ts_ad g 6)] (mX5_idInBestOrder hl ts_iS0) kX5_idInBestOrder q_1687 (by decide) shX5 rfl rfl rfl (Nat.le_of_ble_eq_true rfl) ⟨Nat.le_of_ble_eq_true rfl, Nat.le_of_ble_eq_true rfl⟩ ⟨Nat.le_of_ble_eq_true rfl, Nat.le_of_ble_eq_true rfl⟩ dX11_bestOrder_28 (fun r4 M3 => ?_)
  exact ts_xr (ts_ireti C (Nat.le_of_ble_eq_true rfl) (Nat.le_of_ble_eq_true rfl) dX11_bestOrder_31)
def wX11_isInTop (p1 : Int) (Q : Int → ts_M → Prop) (X : String → ts_M → Prop) (M : ts_M) : Prop :=
  (wX11_checkOnList p1 (fun M1 => (wX5_survey 0 (fun M2 => (wX4_placeOf 0 p1 (fun r4 M3 => (wX5_leadsToAll r4 (fun r6 M5 => ((ts_w r6 = 0 ∨ ts_w r6 = 1) ∧ Q r6 M5)) M3)) M2)) M1)) X M)
set_option maxRecDepth 100000 in
set_option maxHeartbeats 4000000 in
theorem mX11_isInTop {l : Launch} {g : ts_W} (hl : l.stackTraces = false) {p1 : Int} {Q : Int → ts_M → Prop} {X : String → ts_M → Prop} {M : ts_M} : wX11_isInTop p1 Q X M → ts_ConX l g yX11_isInTop cX11_isInTop 2 (some .boolean) 7 1 6 [.ref (ts_ad g 154), ts_v p1] M (ts_Ri Q) X := by
  intro h0
  refine ts_ConX.of hl (by decide) (Nat.le_of_ble_eq_true rfl) ?_
  intro p e s m args below meth c hx C
  revert h0
  unfold wX11_isInTop
  have hl0 : lv_args 0 [.ref (ts_ad g 154), ts_v p1] = [(0, .ref (ts_ad g 154)), (1, ts_v p1)] := rfl
  rw [hl0]
  refine ts_aload_n C dX11_isInTop_0 rfl 0 rfl ?_
  refine ts_iload_n C dX11_isInTop_1 rfl 1 rfl ?_
  refine ts_callXVv C hx [ts_v p1] (mX11_checkOnList hl) kX11_checkOnList q_1551 (by decide) shX11 rfl rfl rfl (Nat.le_of_ble_eq_true rfl) ⟨Nat.le_of_ble_eq_true rfl, Nat.le_of_ble_eq_true rfl⟩ ⟨Nat.le_of_ble_eq_true rfl, Nat.le_of_ble_eq_true rfl⟩ ⟨Nat.le_of_ble_eq_true rfl, Nat.le_of_ble_eq_true rfl⟩ dX11_isInTop_2 (fun M1 => ?_)
  refine ts_aload_n C dX11_isInTop_5 rfl 0 rfl ?_
  refine tgX11_4 C q_432 dX11_isInTop_6 ?_
  refine ts_aload_n C dX11_isInTop_9 rfl 0 rfl ?_
  refine tgX11_0 C q_428 dX11_isInTop_10 ?_
  refine ts_callVv C [.ref (ts_ad g 0)] (mX5_survey hl ts_iS0) kX5_survey q_479 (by decide) shX5 rfl rfl rfl (Nat.le_of_ble_eq_true rfl) ⟨Nat.le_of_ble_eq_true rfl, Nat.le_of_ble_eq_true rfl⟩ ⟨Nat.le_of_ble_eq_true rfl, Nat.le_of_ble_eq_true rfl⟩ dX11_isInTop_13 (fun M2 => ?_)
  refine ts_aload_n C dX11_isInTop_16 rfl 0 rfl ?_
  refine tgX11_4 C q_432 dX11_isInTop_17 ?_
  refine ts_aload_n C dX11_isInTop_20 rfl 0 rfl ?_
  refine tgX11_0 C q_428 dX11_isInTop_21 ?_
  refine tgX9_1 ts_iS0 C q_294 dX11_isInTop_24 ?_
  refine ts_iload_n C dX11_isInTop_27 rfl 1 rfl ?_
  refine ts_callVi C [ts_v p1] (mX4_placeOf hl ts_iS0) kX4_placeOf q_1555 (ts_lt ts_iS0 6 (by decide)) (shX4 ts_iS0) rfl rfl rfl (Nat.le_of_ble_eq_true rfl) ⟨Nat.le_of_ble_eq_true rfl, Nat.le_of_ble_eq_true rfl⟩ ⟨Nat.le_of_ble_eq_true rfl, Nat.le_of_ble_eq_true rfl⟩ dX11_isInTop_28 (fun r4 M3 => ?_)
  refine ts_callVi C [ts_v r4] (mX5_leadsToAll hl) kX5_leadsToAll q_1703 (by decide) shX5 rfl rfl rfl (Nat.le_of_ble_eq_true rfl) ⟨Nat.le_of_ble_eq_true rfl, Nat.le_of_ble_eq_true rfl⟩ ⟨Nat.le_of_ble_eq_true rfl, Nat.le_of_ble_eq_true rfl⟩ dX11_isInTop_31 (fun r6 M5 => ?_)
  exact ts_xr (ts_zreti C (Nat.le_of_ble_eq_true rfl) (Nat.le_of_ble_eq_true rfl) dX11_isInTop_34)
def wX11_isInTopBySets (p1 : Int) (Q : Int → ts_M → Prop) (X : String → ts_M → Prop) (M : ts_M) : Prop :=
  (wX11_checkOnList p1 (fun M1 => (wX5_survey 0 (fun M2 => (wX4_placeOf 0 p1 (fun r4 M3 => (wX5_smallestTop  (fun r6 M5 => (wX5_isIn r4 r6 (fun r8 M7 => ((ts_w r8 = 0 ∨ ts_w r8 = 1) ∧ Q r8 M7)) M5)) M3)) M2)) M1)) X M)
set_option maxRecDepth 100000 in
set_option maxHeartbeats 4000000 in
theorem mX11_isInTopBySets {l : Launch} {g : ts_W} (hl : l.stackTraces = false) {p1 : Int} {Q : Int → ts_M → Prop} {X : String → ts_M → Prop} {M : ts_M} : wX11_isInTopBySets p1 Q X M → ts_ConX l g yX11_isInTopBySets cX11_isInTopBySets 2 (some .boolean) 7 1 6 [.ref (ts_ad g 154), ts_v p1] M (ts_Ri Q) X := by
  intro h0
  refine ts_ConX.of hl (by decide) (Nat.le_of_ble_eq_true rfl) ?_
  intro p e s m args below meth c hx C
  revert h0
  unfold wX11_isInTopBySets
  have hl0 : lv_args 0 [.ref (ts_ad g 154), ts_v p1] = [(0, .ref (ts_ad g 154)), (1, ts_v p1)] := rfl
  rw [hl0]
  refine ts_aload_n C dX11_isInTopBySets_0 rfl 0 rfl ?_
  refine ts_iload_n C dX11_isInTopBySets_1 rfl 1 rfl ?_
  refine ts_callXVv C hx [ts_v p1] (mX11_checkOnList hl) kX11_checkOnList q_1551 (by decide) shX11 rfl rfl rfl (Nat.le_of_ble_eq_true rfl) ⟨Nat.le_of_ble_eq_true rfl, Nat.le_of_ble_eq_true rfl⟩ ⟨Nat.le_of_ble_eq_true rfl, Nat.le_of_ble_eq_true rfl⟩ ⟨Nat.le_of_ble_eq_true rfl, Nat.le_of_ble_eq_true rfl⟩ dX11_isInTopBySets_2 (fun M1 => ?_)
  refine ts_aload_n C dX11_isInTopBySets_5 rfl 0 rfl ?_
  refine tgX11_4 C q_432 dX11_isInTopBySets_6 ?_
  refine ts_aload_n C dX11_isInTopBySets_9 rfl 0 rfl ?_
  refine tgX11_0 C q_428 dX11_isInTopBySets_10 ?_
  refine ts_callVv C [.ref (ts_ad g 0)] (mX5_survey hl ts_iS0) kX5_survey q_479 (by decide) shX5 rfl rfl rfl (Nat.le_of_ble_eq_true rfl) ⟨Nat.le_of_ble_eq_true rfl, Nat.le_of_ble_eq_true rfl⟩ ⟨Nat.le_of_ble_eq_true rfl, Nat.le_of_ble_eq_true rfl⟩ dX11_isInTopBySets_13 (fun M2 => ?_)
  refine ts_aload_n C dX11_isInTopBySets_16 rfl 0 rfl ?_
  refine tgX11_0 C q_428 dX11_isInTopBySets_17 ?_
  refine tgX9_1 ts_iS0 C q_294 dX11_isInTopBySets_20 ?_
  refine ts_iload_n C dX11_isInTopBySets_23 rfl 1 rfl ?_
  refine ts_callVi C [ts_v p1] (mX4_placeOf hl ts_iS0) kX4_placeOf q_1555 (ts_lt ts_iS0 6 (by decide)) (shX4 ts_iS0) rfl rfl rfl (Nat.le_of_ble_eq_true rfl) ⟨Nat.le_of_ble_eq_true rfl, Nat.le_of_ble_eq_true rfl⟩ ⟨Nat.le_of_ble_eq_true rfl, Nat.le_of_ble_eq_true rfl⟩ dX11_isInTopBySets_24 (fun r4 M3 => ?_)
  refine ts_aload_n C dX11_isInTopBySets_27 rfl 0 rfl ?_
  refine tgX11_4 C q_432 dX11_isInTopBySets_28 ?_
  refine ts_callVi C [] (mX5_smallestTop hl) kX5_smallestTop q_1711 (by decide) shX5 rfl rfl rfl (Nat.le_of_ble_eq_true rfl) ⟨Nat.le_of_ble_eq_true rfl, Nat.le_of_ble_eq_true rfl⟩ ⟨Nat.le_of_ble_eq_true rfl, Nat.le_of_ble_eq_true rfl⟩ dX11_isInTopBySets_31 (fun r6 M5 => ?_)
  refine ts_callSi C [ts_v r4, ts_v r6] (mX5_isIn hl) kX5_isIn q_1712 rfl rfl (Nat.le_of_ble_eq_true rfl) ⟨Nat.le_of_ble_eq_true rfl, Nat.le_of_ble_eq_true rfl⟩ ⟨Nat.le_of_ble_eq_true rfl, Nat.le_of_ble_eq_true rfl⟩ dX11_isInTopBySets_34 (fun r8 M7 => ?_)
  exact ts_xr (ts_zreti C (Nat.le_of_ble_eq_true rfl) (Nat.le_of_ble_eq_true rfl) dX11_isInTopBySets_37)
def wX11_isConsistent_B79   (Q : Int → ts_M → Prop)  (z0 : Int) (M : ts_M) : Prop :=
  ((ts_w z0 = 0 ∨ ts_w z0 = 1) ∧ Q z0 M)
def wX11_isConsistent_B78   (Q : Int → ts_M → Prop)   (M : ts_M) : Prop :=
  wX11_isConsistent_B79 Q 0 M
def wX11_isConsistent (Q : Int → ts_M → Prop) (M : ts_M) : Prop :=
  (wX5_survey 0 (fun M1 => (wX5_fewestByTable  (fun r3 M2 => (wX5_fewestByTrying  (fun r5 M4 => ((¬ (ts_w r3 = ts_w r5) → wX11_isConsistent_B78 Q M4) ∧ (ts_w r3 = ts_w r5 → (wX5_topWaysAgree  (fun r7 M6 => ((ts_w r7 = 0 → wX11_isConsistent_B78 Q M6) ∧ (¬ (ts_w r7 = 0) → (wX1_puddleWaysAgree 0 (fun r9 M8 => ((ts_w r9 = 0 → wX11_isConsistent_B78 Q M8) ∧ (¬ (ts_w r9 = 0) → (wX8_countedLumps 0 (fun r11 M10 => (wX8_accountedLumps 0 (fun r13 M12 => ((¬ (ts_w r11 = ts_w r13) → wX11_isConsistent_B78 Q M12) ∧ (ts_w r11 = ts_w r13 → wX11_isConsistent_B79 Q 1 M12))) M10)) M8)))) M6)))) M4)))) M2)) M1)) M)
set_option maxRecDepth 100000 in
set_option maxHeartbeats 4000000 in
theorem mX11_isConsistent {l : Launch} {g : ts_W} (hl : l.stackTraces = false) {Q : Int → ts_M → Prop} {M : ts_M} : wX11_isConsistent Q M → ts_Con l g yX11_isConsistent cX11_isConsistent 1 (some .boolean) 10 0 0 [.ref (ts_ad g 154)] M (ts_Ri Q) := by
  intro h0
  refine ts_Con.of hl (by decide) (Nat.le_of_ble_eq_true rfl) ?_
  intro p e s m args below meth c C
  have H79 : ∀ (z0 : Int) (M : ts_M), wX11_isConsistent_B79   Q z0 M → ts_V p l e (ts_rm 10 0 0) s m args below meth c g 1 0 0 (MQ below (ts_Q g (ts_Ri Q)) args s 0 0 (ts_A g)) 79 [] [ts_v z0] M := by
    intro  z0 M
    unfold wX11_isConsistent_B79
    exact ts_zreti C (Nat.zero_le _) (Nat.zero_le _) dX11_isConsistent_79
  have H78 : ∀  (M : ts_M), wX11_isConsistent_B78   Q  M → ts_V p l e (ts_rm 10 0 0) s m args below meth c g 1 0 0 (MQ below (ts_Q g (ts_Ri Q)) args s 0 0 (ts_A g)) 78 [] [] M := by
    intro   M
    unfold wX11_isConsistent_B78
    refine ts_iconst C dX11_isConsistent_78 0 rfl ?_
    exact ts_sub [] rfl (H79 _ _)
  revert h0
  unfold wX11_isConsistent
  have hl0 : lv_args 0 [.ref (ts_ad g 154)] = [(0, .ref (ts_ad g 154))] := rfl
  rw [hl0]
  refine ts_aload_n C dX11_isConsistent_0 rfl 0 rfl ?_
  refine tgX11_4 C q_432 dX11_isConsistent_1 ?_
  refine ts_aload_n C dX11_isConsistent_4 rfl 0 rfl ?_
  refine tgX11_0 C q_428 dX11_isConsistent_5 ?_
  refine ts_callVv C [.ref (ts_ad g 0)] (mX5_survey hl ts_iS0) kX5_survey q_479 (by decide) shX5 rfl rfl rfl (Nat.le_of_ble_eq_true rfl) ⟨Nat.le_of_ble_eq_true rfl, Nat.le_of_ble_eq_true rfl⟩ ⟨Nat.le_of_ble_eq_true rfl, Nat.le_of_ble_eq_true rfl⟩ dX11_isConsistent_8 (fun M1 => ?_)
  refine ts_aload_n C dX11_isConsistent_11 rfl 0 rfl ?_
  refine tgX11_4 C q_432 dX11_isConsistent_12 ?_
  refine ts_callVi C [] (mX5_fewestByTable hl) kX5_fewestByTable q_493 (by decide) shX5 rfl rfl rfl (Nat.le_of_ble_eq_true rfl) ⟨Nat.le_of_ble_eq_true rfl, Nat.le_of_ble_eq_true rfl⟩ ⟨Nat.le_of_ble_eq_true rfl, Nat.le_of_ble_eq_true rfl⟩ dX11_isConsistent_15 (fun r3 M2 => ?_)
  refine ts_aload_n C dX11_isConsistent_18 rfl 0 rfl ?_
  refine tgX11_4 C q_432 dX11_isConsistent_19 ?_
  refine ts_callVi C [] (mX5_fewestByTrying hl) kX5_fewestByTrying q_520 (by decide) shX5 rfl rfl rfl (Nat.le_of_ble_eq_true rfl) ⟨Nat.le_of_ble_eq_true rfl, Nat.le_of_ble_eq_true rfl⟩ ⟨Nat.le_of_ble_eq_true rfl, Nat.le_of_ble_eq_true rfl⟩ dX11_isConsistent_22 (fun r5 M4 => ?_)
  refine ts_cmp_ne C rfl rfl 78 dX11_isConsistent_25 rfl ?_ ?_
  · exact ts_sub [] rfl (H78 _)
  · refine ts_aload_n C dX11_isConsistent_28 rfl 0 rfl ?_
    refine tgX11_4 C q_432 dX11_isConsistent_29 ?_
    refine ts_callVi C [] (mX5_topWaysAgree hl) kX5_topWaysAgree q_602 (by decide) shX5 rfl rfl rfl (Nat.le_of_ble_eq_true rfl) ⟨Nat.le_of_ble_eq_true rfl, Nat.le_of_ble_eq_true rfl⟩ ⟨Nat.le_of_ble_eq_true rfl, Nat.le_of_ble_eq_true rfl⟩ dX11_isConsistent_32 (fun r7 M6 => ?_)
    refine ts_cm0_eq C rfl 78 dX11_isConsistent_35 rfl ?_ ?_
    · exact ts_sub [] rfl (H78 _)
    · refine ts_aload_n C dX11_isConsistent_38 rfl 0 rfl ?_
      refine tgX11_0 C q_428 dX11_isConsistent_39 ?_
      refine tgX9_3 ts_iS0 C q_298 dX11_isConsistent_42 ?_
      refine ts_callVi C [] (mX1_puddleWaysAgree hl ts_iS0) kX1_puddleWaysAgree q_632 (ts_lt ts_iS0 11 (by decide)) (shX1 ts_iS0) rfl rfl rfl (Nat.le_of_ble_eq_true rfl) ⟨Nat.le_of_ble_eq_true rfl, Nat.le_of_ble_eq_true rfl⟩ ⟨Nat.le_of_ble_eq_true rfl, Nat.le_of_ble_eq_true rfl⟩ dX11_isConsistent_45 (fun r9 M8 => ?_)
      refine ts_cm0_eq C rfl 78 dX11_isConsistent_48 rfl ?_ ?_
      · exact ts_sub [] rfl (H78 _)
      · refine ts_aload_n C dX11_isConsistent_51 rfl 0 rfl ?_
        refine tgX11_0 C q_428 dX11_isConsistent_52 ?_
        refine tgX9_0 ts_iS0 C q_291 dX11_isConsistent_55 ?_
        refine ts_callVi C [] (mX8_countedLumps hl ts_iS0) kX8_countedLumps q_582 (ts_lt ts_iS0 1 (by decide)) (shX8 ts_iS0) rfl rfl rfl (Nat.le_of_ble_eq_true rfl) ⟨Nat.le_of_ble_eq_true rfl, Nat.le_of_ble_eq_true rfl⟩ ⟨Nat.le_of_ble_eq_true rfl, Nat.le_of_ble_eq_true rfl⟩ dX11_isConsistent_58 (fun r11 M10 => ?_)
        refine ts_aload_n C dX11_isConsistent_61 rfl 0 rfl ?_
        refine tgX11_0 C q_428 dX11_isConsistent_62 ?_
        refine tgX9_0 ts_iS0 C q_291 dX11_isConsistent_65 ?_
        refine ts_callVi C [] (mX8_accountedLumps hl ts_iS0) kX8_accountedLumps q_594 (ts_lt ts_iS0 1 (by decide)) (shX8 ts_iS0) rfl rfl rfl (Nat.le_of_ble_eq_true rfl) ⟨Nat.le_of_ble_eq_true rfl, Nat.le_of_ble_eq_true rfl⟩ ⟨Nat.le_of_ble_eq_true rfl, Nat.le_of_ble_eq_true rfl⟩ dX11_isConsistent_68 (fun r13 M12 => ?_)
        refine ts_cmp_ne C rfl rfl 78 dX11_isConsistent_71 rfl ?_ ?_
        · exact ts_sub [] rfl (H78 _)
        · refine ts_iconst C dX11_isConsistent_74 1 rfl ?_
          refine ts_goto C 79 dX11_isConsistent_75 rfl ?_
          exact ts_sub [] rfl (H79 _ _)
def wX11_restore (Q : Int → ts_M → Prop) (X : String → ts_M → Prop) (M : ts_M) : Prop :=
  ((¬ (ts_w (M.1 154 7) = 0) → (wX9_copyFrom 0 28 (fun M1 => (wX3_forgetAll  (fun M2 => Q (M2.1 1 4) M2) M1)) M)) ∧ (ts_w (M.1 154 7) = 0 → X "java/lang/IllegalStateException" M))
set_option maxRecDepth 100000 in
set_option maxHeartbeats 4000000 in
theorem mX11_restore {l : Launch} {g : ts_W} (hl : l.stackTraces = false) {Q : Int → ts_M → Prop} {X : String → ts_M → Prop} {M : ts_M} : wX11_restore Q X M → ts_ConX l g yX11_restore cX11_restore 1 (some .int) 6 1 6 [.ref (ts_ad g 154)] M (ts_Ri Q) X := by
  intro h0
  refine ts_ConX.of hl (by decide) (Nat.le_of_ble_eq_true rfl) ?_
  intro p e s m args below meth c hx C
  revert h0
  unfold wX11_restore
  have hl0 : lv_args 0 [.ref (ts_ad g 154)] = [(0, .ref (ts_ad g 154))] := rfl
  rw [hl0]
  refine ts_aload_n C dX11_restore_0 rfl 0 rfl ?_
  refine tgX11_7 C q_435 dX11_restore_1 ?_
  refine ts_cm0_ne C rfl 18 dX11_restore_4 rfl ?_ ?_
  · refine ts_aload_n C dX11_restore_18 rfl 0 rfl ?_
    refine tgX11_0 C q_428 dX11_restore_19 ?_
    refine ts_aload_n C dX11_restore_22 rfl 0 rfl ?_
    refine tgX11_2 C q_430 dX11_restore_23 ?_
    refine ts_callVv C [.ref (ts_ad g 28)] (mX9_copyFrom hl ts_iS0 ts_iS28) kX9_copyFrom q_1062 (ts_lt0 ts_iS0) (shX9 ts_iS0) rfl rfl rfl (Nat.le_of_ble_eq_true rfl) ⟨Nat.le_of_ble_eq_true rfl, Nat.le_of_ble_eq_true rfl⟩ ⟨Nat.le_of_ble_eq_true rfl, Nat.le_of_ble_eq_true rfl⟩ dX11_restore_26 (fun M1 => ?_)
    refine ts_aload_n C dX11_restore_29 rfl 0 rfl ?_
    refine tgX11_3 C q_431 dX11_restore_30 ?_
    refine ts_callVv C [] (mX3_forgetAll hl) kX3_forgetAll q_1948 (by decide) shX3 rfl rfl rfl (Nat.le_of_ble_eq_true rfl) ⟨Nat.le_of_ble_eq_true rfl, Nat.le_of_ble_eq_true rfl⟩ ⟨Nat.le_of_ble_eq_true rfl, Nat.le_of_ble_eq_true rfl⟩ dX11_restore_33 (fun M2 => ?_)
    refine ts_aload_n C dX11_restore_36 rfl 0 rfl ?_
    refine tgX11_0 C q_428 dX11_restore_37 ?_
    refine tgX9_0 ts_iS0 C q_291 dX11_restore_40 ?_
    refine tgX8_4 ts_iS0 C q_192 dX11_restore_43 ?_
    exact ts_xr (ts_ireti C (Nat.le_of_ble_eq_true rfl) (Nat.le_of_ble_eq_true rfl) dX11_restore_46)
  · exact ts_thrW (text := "there is no snapshot") (sx := 226) (names := ["java/lang/RuntimeException", "java/lang/Exception"]) C hx egIS_ok enIS_ok eaIS eoIS q_1183 q_141 (by decide) (by decide +kernel) (by decide +kernel) dX11_restore_7 dX11_restore_10 dX11_restore_11 dX11_restore_14 dX11_restore_17 (Nat.le_of_ble_eq_true rfl) (Nat.le_of_ble_eq_true rfl) (Nat.le_of_ble_eq_true rfl) (Nat.le_of_ble_eq_true rfl) (Nat.le_of_ble_eq_true rfl) (Nat.le_of_ble_eq_true rfl)
def wX11_motionKind_B18   (Q : Int → ts_M → Prop) (X : String → ts_M → Prop)   (M : ts_M) : Prop :=
  X "java/util/NoSuchElementException" M
def wX11_motionKind (p1 : Int) (Q : Int → ts_M → Prop) (X : String → ts_M → Prop) (M : ts_M) : Prop :=
  ((ts_w p1 < 0 → wX11_motionKind_B18 Q X M) ∧ (¬ (ts_w p1 < 0) → ((ts_w p1 < ts_w (M.1 9 1) → (wX10_letterAt 0 p1 (fun r2 M1 => ((0 ≤ ts_w r2 ∧ ts_w r2 < 65536) ∧ Q r2 M1)) M)) ∧ (¬ (ts_w p1 < ts_w (M.1 9 1)) → wX11_motionKind_B18 Q X M))))
set_option maxRecDepth 100000 in
set_option maxHeartbeats 4000000 in
theorem mX11_motionKind {l : Launch} {g : ts_W} (hl : l.stackTraces = false) {p1 : Int} {Q : Int → ts_M → Prop} {X : String → ts_M → Prop} {M : ts_M} : wX11_motionKind p1 Q X M → ts_ConX l g yX11_motionKind cX11_motionKind 2 (some .char) 6 1 6 [.ref (ts_ad g 154), ts_v p1] M (ts_Ri Q) X := by
  intro h0
  refine ts_ConX.of hl (by decide) (Nat.le_of_ble_eq_true rfl) ?_
  intro p e s m args below meth c hx C
  have H18 : ∀  (M : ts_M), wX11_motionKind_B18   Q X  M → ts_V p l e (ts_rm 6 1 6) s m args below meth c g 2 0 0 (vx_MQ below (ts_Q g (ts_Ri Q)) (ts_X g X) args s 1 6 (ts_A g)) 18 [] [] M := by
    intro   M
    unfold wX11_motionKind_B18
    exact ts_thrN (text := "no motion lies at this place") (sx := 208) (r := ["java/lang/Exception"]) (Y := "java/lang/RuntimeException") (ix := 13) (rx := ts_rx13) C hx egNS_ok enNS_ok eaNS eoNS q_1214 q_143 (by decide) (by decide +kernel) (by decide +kernel) (by decide +kernel) ts_rx13_0 ts_rx13_1 ts_rx13_2 ts_rx13_5 dX11_motionKind_18 dX11_motionKind_21 dX11_motionKind_22 dX11_motionKind_24 dX11_motionKind_27 (Nat.le_of_ble_eq_true rfl) (Nat.le_of_ble_eq_true rfl) (Nat.le_of_ble_eq_true rfl) (Nat.le_of_ble_eq_true rfl) (Nat.le_of_ble_eq_true rfl) (Nat.le_of_ble_eq_true rfl)
  revert h0
  unfold wX11_motionKind
  have hl0 : lv_args 0 [.ref (ts_ad g 154), ts_v p1] = [(0, .ref (ts_ad g 154)), (1, ts_v p1)] := rfl
  rw [hl0]
  refine ts_iload_n C dX11_motionKind_0 rfl 1 rfl ?_
  refine ts_cm0_lt C rfl 18 dX11_motionKind_1 rfl ?_ ?_
  · exact ts_sub [] rfl (H18 _)
  · refine ts_iload_n C dX11_motionKind_4 rfl 1 rfl ?_
    refine ts_aload_n C dX11_motionKind_5 rfl 0 rfl ?_
    refine tgX11_0 C q_428 dX11_motionKind_6 ?_
    refine tgX9_2 ts_iS0 C q_296 dX11_motionKind_9 ?_
    refine tgX10_1 ts_iS0 C q_249 dX11_motionKind_12 ?_
    refine ts_cmp_lt C rfl rfl 28 dX11_motionKind_15 rfl ?_ ?_
    · refine ts_aload_n C dX11_motionKind_28 rfl 0 rfl ?_
      refine tgX11_0 C q_428 dX11_motionKind_29 ?_
      refine tgX9_2 ts_iS0 C q_296 dX11_motionKind_32 ?_
      refine ts_iload_n C dX11_motionKind_35 rfl 1 rfl ?_
      refine ts_callVi C [ts_v p1] (mX10_letterAt hl ts_iS0) kX10_letterAt q_1002 (ts_lt ts_iS0 9 (by decide)) (shX10 ts_iS0) rfl rfl rfl (Nat.le_of_ble_eq_true rfl) ⟨Nat.le_of_ble_eq_true rfl, Nat.le_of_ble_eq_true rfl⟩ ⟨Nat.le_of_ble_eq_true rfl, Nat.le_of_ble_eq_true rfl⟩ dX11_motionKind_36 (fun r2 M1 => ?_)
      exact ts_xr (ts_creti C (Nat.le_of_ble_eq_true rfl) (Nat.le_of_ble_eq_true rfl) dX11_motionKind_39)
    · exact ts_sub [] rfl (H18 _)
def wX11_canMove_B57   (Q : Int → ts_M → Prop) (X : String → ts_M → Prop)  (z0 : Int) (M : ts_M) : Prop :=
  ((ts_w z0 = 0 ∨ ts_w z0 = 1) ∧ Q z0 M)
def wX11_canMove_B56   (Q : Int → ts_M → Prop) (X : String → ts_M → Prop)   (M : ts_M) : Prop :=
  wX11_canMove_B57 Q X 0 M
def wX11_canMove_B52   (Q : Int → ts_M → Prop) (X : String → ts_M → Prop)   (M : ts_M) : Prop :=
  wX11_canMove_B57 Q X 1 M
def wX11_canMove (p1 : Int) (Q : Int → ts_M → Prop) (X : String → ts_M → Prop) (M : ts_M) : Prop :=
  (wJ0_indexOf_0f7a4 12 p1 (fun r2 M1 => (∀ x3 : Int, x3 = r2 → ((0 ≤ ts_w x3 → (wX10_admits 0 x3 (fun r5 M4 => ((ts_w r5 = 0 → wX11_canMove_B56 Q X M4) ∧ (¬ (ts_w r5 = 0) → ((¬ (ts_w x3 = 0) → wX11_canMove_B52 Q X M4) ∧ (ts_w x3 = 0 → ((ts_w (M4.1 6 2) ≤ 0 → wX11_canMove_B56 Q X M4) ∧ (¬ (ts_w (M4.1 6 2) ≤ 0) → wX11_canMove_B52 Q X M4))))))) M1)) ∧ (¬ (0 ≤ ts_w x3) → X "java/lang/IllegalArgumentException" M1)))) M)
set_option maxRecDepth 100000 in
set_option maxHeartbeats 4000000 in
theorem mX11_canMove {l : Launch} {g : ts_W} (hl : l.stackTraces = false) {p1 : Int} {Q : Int → ts_M → Prop} {X : String → ts_M → Prop} {M : ts_M} : wX11_canMove p1 Q X M → ts_ConX l g yX11_canMove cX11_canMove 3 (some .boolean) 6 1 6 [.ref (ts_ad g 154), ts_v p1] M (ts_Ri Q) X := by
  intro h0
  refine ts_ConX.of hl (by decide) (Nat.le_of_ble_eq_true rfl) ?_
  intro p e s m args below meth c hx C
  have H57 : ∀ (z0 : Int) (M : ts_M), wX11_canMove_B57   Q X z0 M → ts_V p l e (ts_rm 6 1 6) s m args below meth c g 3 0 0 (vx_MQ below (ts_Q g (ts_Ri Q)) (ts_X g X) args s 1 6 (ts_A g)) 57 [] [ts_v z0] M := by
    intro  z0 M
    unfold wX11_canMove_B57
    exact ts_xr (ts_zreti C (Nat.le_of_ble_eq_true rfl) (Nat.le_of_ble_eq_true rfl) dX11_canMove_57)
  have H56 : ∀  (M : ts_M), wX11_canMove_B56   Q X  M → ts_V p l e (ts_rm 6 1 6) s m args below meth c g 3 0 0 (vx_MQ below (ts_Q g (ts_Ri Q)) (ts_X g X) args s 1 6 (ts_A g)) 56 [] [] M := by
    intro   M
    unfold wX11_canMove_B56
    refine ts_iconst C dX11_canMove_56 0 rfl ?_
    exact ts_sub [] rfl (H57 _ _)
  have H52 : ∀  (M : ts_M), wX11_canMove_B52   Q X  M → ts_V p l e (ts_rm 6 1 6) s m args below meth c g 3 0 0 (vx_MQ below (ts_Q g (ts_Ri Q)) (ts_X g X) args s 1 6 (ts_A g)) 52 [] [] M := by
    intro   M
    unfold wX11_canMove_B52
    refine ts_iconst C dX11_canMove_52 1 rfl ?_
    refine ts_goto C 57 dX11_canMove_53 rfl ?_
    exact ts_sub [] rfl (H57 _ _)
  revert h0
  unfold wX11_canMove
  have hl0 : lv_args 0 [.ref (ts_ad g 154), ts_v p1] = [(0, .ref (ts_ad g 154)), (1, ts_v p1)] := rfl
  rw [hl0]
  refine ts_ldcS (tx := "mapcj") C 12 (by decide) dX11_canMove_0 ?_
  refine ts_iload_n C dX11_canMove_2 rfl 1 rfl ?_
  refine ts_callRi C [ts_v p1] (mJ0_indexOf_0f7a4 hl (by decide)) kJ0_indexOf_0f7a4 q_1594 (ts_recS C (by decide)) rfl rfl (Nat.le_of_ble_eq_true rfl) ⟨Nat.le_of_ble_eq_true rfl, Nat.le_of_ble_eq_true rfl⟩ ⟨Nat.le_of_ble_eq_true rfl, Nat.le_of_ble_eq_true rfl⟩ dX11_canMove_3 (fun r2 M1 => ?_)
  refine ts_istore_n C dX11_canMove_6 rfl (by decide) (lv' := fun x3 => [(2, ts_v x3), (0, .ref (ts_ad g 154)), (1, ts_v p1)]) (fun _ => rfl) (fun x3 => ?_)
  refine ts_iload_n C dX11_canMove_7 rfl 0 rfl ?_
  refine ts_cm0_ge C rfl 21 dX11_canMove_8 rfl ?_ ?_
  · refine ts_aload_n C dX11_canMove_21 rfl 1 rfl ?_
    refine tgX11_0 C q_428 dX11_canMove_22 ?_
    refine tgX9_2 ts_iS0 C q_296 dX11_canMove_25 ?_
    refine ts_iload_n C dX11_canMove_28 rfl 0 rfl ?_
    refine ts_callVi C [ts_v x3] (mX10_admits hl ts_iS0) kX10_admits q_1641 (ts_lt ts_iS0 9 (by decide)) (shX10 ts_iS0) rfl rfl rfl (Nat.le_of_ble_eq_true rfl) ⟨Nat.le_of_ble_eq_true rfl, Nat.le_of_ble_eq_true rfl⟩ ⟨Nat.le_of_ble_eq_true rfl, Nat.le_of_ble_eq_true rfl⟩ dX11_canMove_29 (fun r5 M4 => ?_)
    refine ts_cm0_eq C rfl 56 dX11_canMove_32 rfl ?_ ?_
    · exact ts_sub [] rfl (H56 _)
    · refine ts_iload_n C dX11_canMove_35 rfl 0 rfl ?_
      refine ts_cm0_ne C rfl 52 dX11_canMove_36 rfl ?_ ?_
      · exact ts_sub [] rfl (H52 _)
      · refine ts_aload_n C dX11_canMove_39 rfl 1 rfl ?_
        refine tgX11_0 C q_428 dX11_canMove_40 ?_
        refine tgX9_1 ts_iS0 C q_294 dX11_canMove_43 ?_
        refine tgX4_2 ts_iS0 C q_229 dX11_canMove_46 ?_
        refine ts_cm0_le C rfl 56 dX11_canMove_49 rfl ?_ ?_
        · exact ts_sub [] rfl (H56 _)
        · exact ts_sub [] rfl (H52 _)
  · exact ts_thr (text := "there is no such kind of motion") (sx := 211) (names := ["java/lang/RuntimeException", "java/lang/Exception"]) C hx egIA_ok enIA_ok eaIA eoIA q_1179 q_140 (by decide) (by decide +kernel) (by decide +kernel) dX11_canMove_11 dX11_canMove_14 dX11_canMove_15 dX11_canMove_17 dX11_canMove_20 (Nat.le_of_ble_eq_true rfl) (Nat.le_of_ble_eq_true rfl) (Nat.le_of_ble_eq_true rfl) (Nat.le_of_ble_eq_true rfl) (Nat.le_of_ble_eq_true rfl) (Nat.le_of_ble_eq_true rfl)
def wX11_undo (Q : Int → ts_M → Prop) (X : String → ts_M → Prop) (M : ts_M) : Prop :=
  ((¬ (ts_w (M.1 158 2) = 0) → (wX3_stepBack 0 (fun M1 => Q (M1.1 158 2) M1) M)) ∧ (ts_w (M.1 158 2) = 0 → X "java/lang/IllegalStateException" M))
set_option maxRecDepth 100000 in
set_option maxHeartbeats 4000000 in
theorem mX11_undo {l : Launch} {g : ts_W} (hl : l.stackTraces = false) {Q : Int → ts_M → Prop} {X : String → ts_M → Prop} {M : ts_M} : wX11_undo Q X M → ts_ConX l g yX11_undo cX11_undo 1 (some .int) 6 1 6 [.ref (ts_ad g 154)] M (ts_Ri Q) X := by
  intro h0
  refine ts_ConX.of hl (by decide) (Nat.le_of_ble_eq_true rfl) ?_
  intro p e s m args below meth c hx C
  revert h0
  unfold wX11_undo
  have hl0 : lv_args 0 [.ref (ts_ad g 154)] = [(0, .ref (ts_ad g 154))] := rfl
  rw [hl0]
  refine ts_aload_n C dX11_undo_0 rfl 0 rfl ?_
  refine tgX11_3 C q_431 dX11_undo_1 ?_
  refine tgX3_2 C q_339 dX11_undo_4 ?_
  refine ts_cm0_ne C rfl 21 dX11_undo_7 rfl ?_ ?_
  · refine ts_aload_n C dX11_undo_21 rfl 0 rfl ?_
    refine tgX11_3 C q_431 dX11_undo_22 ?_
    refine ts_aload_n C dX11_undo_25 rfl 0 rfl ?_
    refine tgX11_0 C q_428 dX11_undo_26 ?_
    refine ts_callVv C [.ref (ts_ad g 0)] (mX3_stepBack hl ts_iS0) kX3_stepBack q_1936 (by decide) shX3 rfl rfl rfl (Nat.le_of_ble_eq_true rfl) ⟨Nat.le_of_ble_eq_true rfl, Nat.le_of_ble_eq_true rfl⟩ ⟨Nat.le_of_ble_eq_true rfl, Nat.le_of_ble_eq_true rfl⟩ dX11_undo_29 (fun M1 => ?_)
    refine ts_aload_n C dX11_undo_32 rfl 0 rfl ?_
    refine tgX11_3 C q_431 dX11_undo_33 ?_
    refine tgX3_2 C q_339 dX11_undo_36 ?_
    exact ts_xr (ts_ireti C (Nat.le_of_ble_eq_true rfl) (Nat.le_of_ble_eq_true rfl) dX11_undo_39)
  · exact ts_thrW (text := "there is nothing to undo") (sx := 225) (names := ["java/lang/RuntimeException", "java/lang/Exception"]) C hx egIS_ok enIS_ok eaIS eoIS q_1183 q_141 (by decide) (by decide +kernel) (by decide +kernel) dX11_undo_10 dX11_undo_13 dX11_undo_14 dX11_undo_17 dX11_undo_20 (Nat.le_of_ble_eq_true rfl) (Nat.le_of_ble_eq_true rfl) (Nat.le_of_ble_eq_true rfl) (Nat.le_of_ble_eq_true rfl) (Nat.le_of_ble_eq_true rfl) (Nat.le_of_ble_eq_true rfl)
def wX11_change (p1 : Int) (p2 : Int) (p3 : Int) (p4 : Int) (Q : Int → ts_M → Prop) (X : String → ts_M → Prop) (M : ts_M) : Prop :=
  (wX9_refusalOf 0 p1 p2 p3 p4 (fun r2 M1 => (wX11_throwIfRefused r2 (fun M3 => (wX3_remember 0 (fun M4 => (wX9_perform 0 p1 p2 p3 p4 (fun r6 M5 => Q r6 M5) M4)) M3)) X M1)) M)
set_option maxRecDepth 100000 in
set_option maxHeartbeats 4000000 in
theorem mX11_change {l : Launch} {g : ts_W} (hl : l.stackTraces = false) {p1 : Int} {p2 : Int} {p3 : Int} {p4 : Int} {Q : Int → ts_M → Prop} {X : String → ts_M → Prop} {M : ts_M} : wX11_change p1 p2 p3 p4 Q X M → ts_ConX l g yX11_change cX11_change 5 (some .int) 7 1 6 [.ref (ts_ad g 154), ts_cx g p1, ts_v p2, ts_v p3, ts_v p4] M (ts_Ri Q) X := by
  intro h0
  refine ts_ConX.of hl (by decide) (by unfold ts_cx; cases ts_cm g p1 <;> exact Nat.le_of_ble_eq_true rfl) ?_
  intro p e s m args below meth c hx C
  revert h0
  unfold wX11_change
  have hl0 : lv_args 0 [.ref (ts_ad g 154), ts_cx g p1, ts_v p2, ts_v p3, ts_v p4] = [(0, .ref (ts_ad g 154)), (1, ts_cx g p1), (2, ts_v p2), (3, ts_v p3), (4, ts_v p4)] := (by unfold ts_cx; cases ts_cm g p1 <;> rfl)
  rw [hl0]
  refine ts_aload_n C dX11_change_0 rfl 0 rfl ?_
  refine tgX11_0 C q_428 dX11_change_1 ?_
  refine ts_aloadq_n C dX11_change_4 rfl 1 rfl ?_
  refine ts_iload_n C dX11_change_5 rfl 2 rfl ?_
  refine ts_iload_n C dX11_change_6 rfl 3 rfl ?_
  refine ts_iload C dX11_change_7 4 rfl ?_
  refine ts_callVr C [ts_cx g p1, ts_v p2, ts_v p3, ts_v p4] (mX9_refusalOf hl ts_iS0) kX9_refusalOf q_1101 (ts_lt0 ts_iS0) (shX9 ts_iS0) rfl rfl rfl (Nat.le_of_ble_eq_true rfl) ⟨Nat.le_of_ble_eq_true rfl, Nat.le_of_ble_eq_true rfl⟩ ⟨Nat.le_of_ble_eq_true rfl, Nat.le_of_ble_eq_true rfl⟩ dX11_change_9 (fun r2 M1 => ?_)
  refine ts_callXSv C hx [ts_rv g r2] (mX11_throwIfRefused hl) kX11_throwIfRefused q_1175 rfl rfl (Nat.le_of_ble_eq_true rfl) ⟨Nat.le_of_ble_eq_true rfl, Nat.le_of_ble_eq_true rfl⟩ ⟨Nat.le_of_ble_eq_true rfl, Nat.le_of_ble_eq_true rfl⟩ ⟨Nat.le_of_ble_eq_true rfl, Nat.le_of_ble_eq_true rfl⟩ dX11_change_12 (fun M3 => ?_)
  refine ts_aload_n C dX11_change_15 rfl 0 rfl ?_
  refine tgX11_3 C q_431 dX11_change_16 ?_
  refine ts_aload_n C dX11_change_19 rfl 0 rfl ?_
  refine tgX11_0 C q_428 dX11_change_20 ?_
  refine ts_callVv C [.ref (ts_ad g 0)] (mX3_remember hl ts_iS0) kX3_remember q_1247 (by decide) shX3 rfl rfl rfl (Nat.le_of_ble_eq_true rfl) ⟨Nat.le_of_ble_eq_true rfl, Nat.le_of_ble_eq_true rfl⟩ ⟨Nat.le_of_ble_eq_true rfl, Nat.le_of_ble_eq_true rfl⟩ dX11_change_23 (fun M4 => ?_)
  refine ts_aload_n C dX11_change_26 rfl 0 rfl ?_
  refine tgX11_0 C q_428 dX11_change_27 ?_
  refine ts_aloadq_n C dX11_change_30 rfl 1 rfl ?_
  refine ts_iload_n C dX11_change_31 rfl 2 rfl ?_
  refine ts_iload_n C dX11_change_32 rfl 3 rfl ?_
  refine ts_iload C dX11_change_33 4 rfl ?_
  refine ts_callVi C [ts_cx g p1, ts_v p2, ts_v p3, ts_v p4] (mX9_perform hl ts_iS0) kX9_perform q_1256 (ts_lt0 ts_iS0) (shX9 ts_iS0) rfl rfl rfl (Nat.le_of_ble_eq_true rfl) ⟨Nat.le_of_ble_eq_true rfl, Nat.le_of_ble_eq_true rfl⟩ ⟨Nat.le_of_ble_eq_true rfl, Nat.le_of_ble_eq_true rfl⟩ dX11_change_35 (fun r6 M5 => ?_)
  exact ts_xr (ts_ireti C (Nat.le_of_ble_eq_true rfl) (Nat.le_of_ble_eq_true rfl) dX11_change_38)
def wX11_addSpoon (p1 : Int) (p2 : Int) (Q : Int → ts_M → Prop) (X : String → ts_M → Prop) (M : ts_M) : Prop :=
  (wX11_change 0 p1 p2 0 (fun r2 M1 => Q r2 M1) X M)
set_option maxRecDepth 100000 in
set_option maxHeartbeats 4000000 in
theorem mX11_addSpoon {l : Launch} {g : ts_W} (hl : l.stackTraces = false) {p1 : Int} {p2 : Int} {Q : Int → ts_M → Prop} {X : String → ts_M → Prop} {M : ts_M} : wX11_addSpoon p1 p2 Q X M → ts_ConX l g yX11_addSpoon cX11_addSpoon 3 (some .int) 8 1 6 [.ref (ts_ad g 154), ts_v p1, ts_v p2] M (ts_Ri Q) X := by
  intro h0
  refine ts_ConX.of hl (by decide) (Nat.le_of_ble_eq_true rfl) ?_
  intro p e s m args below meth c hx C
  revert h0
  unfold wX11_addSpoon
  have hl0 : lv_args 0 [.ref (ts_ad g 154), ts_v p1, ts_v p2] = [(0, .ref (ts_ad g 154)), (1, ts_v p1), (2, ts_v p2)] := rfl
  rw [hl0]
  refine ts_aload_n C dX11_addSpoon_0 rfl 0 rfl ?_
  refine ts_getC C 0 (by decide) q_1095 dX11_addSpoon_1 ?_
  refine ts_iload_n C dX11_addSpoon_4 rfl 1 rfl ?_
  refine ts_iload_n C dX11_addSpoon_5 rfl 2 rfl ?_
  refine ts_iconst C dX11_addSpoon_6 0 rfl ?_
  refine ts_callXVi C hx [ts_cx g 0, ts_v p1, ts_v p2, ts_v 0] (mX11_change hl) kX11_change q_1097 (by decide) shX11 rfl rfl rfl (Nat.le_of_ble_eq_true rfl) ⟨Nat.le_of_ble_eq_true rfl, Nat.le_of_ble_eq_true rfl⟩ ⟨Nat.le_of_ble_eq_true rfl, Nat.le_of_ble_eq_true rfl⟩ ⟨Nat.le_of_ble_eq_true rfl, Nat.le_of_ble_eq_true rfl⟩ dX11_addSpoon_7 (fun r2 M1 => ?_)
  exact ts_xr (ts_ireti C (Nat.le_of_ble_eq_true rfl) (Nat.le_of_ble_eq_true rfl) dX11_addSpoon_10)
def wX11_propose (p1 : Int) (Q : Int → ts_M → Prop) (X : String → ts_M → Prop) (M : ts_M) : Prop :=
  (wX11_change 1 p1 0 0 (fun r2 M1 => Q r2 M1) X M)
set_option maxRecDepth 100000 in
set_option maxHeartbeats 4000000 in
theorem mX11_propose {l : Launch} {g : ts_W} (hl : l.stackTraces = false) {p1 : Int} {Q : Int → ts_M → Prop} {X : String → ts_M → Prop} {M : ts_M} : wX11_propose p1 Q X M → ts_ConX l g yX11_propose cX11_propose 2 (some .int) 8 1 6 [.ref (ts_ad g 154), ts_v p1] M (ts_Ri Q) X := by
  intro h0
  refine ts_ConX.of hl (by decide) (Nat.le_of_ble_eq_true rfl) ?_
  intro p e s m args below meth c hx C
  revert h0
  unfold wX11_propose
  have hl0 : lv_args 0 [.ref (ts_ad g 154), ts_v p1] = [(0, .ref (ts_ad g 154)), (1, ts_v p1)] := rfl
  rw [hl0]
  refine ts_aload_n C dX11_propose_0 rfl 0 rfl ?_
  refine ts_getC C 1 (by decide) q_1401 dX11_propose_1 ?_
  refine ts_iload_n C dX11_propose_4 rfl 1 rfl ?_
  refine ts_iconst C dX11_propose_5 0 rfl ?_
  refine ts_iconst C dX11_propose_6 0 rfl ?_
  refine ts_callXVi C hx [ts_cx g 1, ts_v p1, ts_v 0, ts_v 0] (mX11_change hl) kX11_change q_1097 (by decide) shX11 rfl rfl rfl (Nat.le_of_ble_eq_true rfl) ⟨Nat.le_of_ble_eq_true rfl, Nat.le_of_ble_eq_true rfl⟩ ⟨Nat.le_of_ble_eq_true rfl, Nat.le_of_ble_eq_true rfl⟩ ⟨Nat.le_of_ble_eq_true rfl, Nat.le_of_ble_eq_true rfl⟩ dX11_propose_7 (fun r2 M1 => ?_)
  exact ts_xr (ts_ireti C (Nat.le_of_ble_eq_true rfl) (Nat.le_of_ble_eq_true rfl) dX11_propose_10)
def wX11_moveMain (p1 : Int) (Q : Int → ts_M → Prop) (X : String → ts_M → Prop) (M : ts_M) : Prop :=
  (wX11_change 2 p1 0 0 (fun r2 M1 => Q r2 M1) X M)
set_option maxRecDepth 100000 in
set_option maxHeartbeats 4000000 in
theorem mX11_moveMain {l : Launch} {g : ts_W} (hl : l.stackTraces = false) {p1 : Int} {Q : Int → ts_M → Prop} {X : String → ts_M → Prop} {M : ts_M} : wX11_moveMain p1 Q X M → ts_ConX l g yX11_moveMain cX11_moveMain 2 (some .int) 8 1 6 [.ref (ts_ad g 154), ts_v p1] M (ts_Ri Q) X := by
  intro h0
  refine ts_ConX.of hl (by decide) (Nat.le_of_ble_eq_true rfl) ?_
  intro p e s m args below meth c hx C
  revert h0
  unfold wX11_moveMain
  have hl0 : lv_args 0 [.ref (ts_ad g 154), ts_v p1] = [(0, .ref (ts_ad g 154)), (1, ts_v p1)] := rfl
  rw [hl0]
  refine ts_aload_n C dX11_moveMain_0 rfl 0 rfl ?_
  refine ts_getC C 2 (by decide) q_1412 dX11_moveMain_1 ?_
  refine ts_iload_n C dX11_moveMain_4 rfl 1 rfl ?_
  refine ts_iconst C dX11_moveMain_5 0 rfl ?_
  refine ts_iconst C dX11_moveMain_6 0 rfl ?_
  refine ts_callXVi C hx [ts_cx g 2, ts_v p1, ts_v 0, ts_v 0] (mX11_change hl) kX11_change q_1097 (by decide) shX11 rfl rfl rfl (Nat.le_of_ble_eq_true rfl) ⟨Nat.le_of_ble_eq_true rfl, Nat.le_of_ble_eq_true rfl⟩ ⟨Nat.le_of_ble_eq_true rfl, Nat.le_of_ble_eq_true rfl⟩ ⟨Nat.le_of_ble_eq_true rfl, Nat.le_of_ble_eq_true rfl⟩ dX11_moveMain_7 (fun r2 M1 => ?_)
  exact ts_xr (ts_ireti C (Nat.le_of_ble_eq_true rfl) (Nat.le_of_ble_eq_true rfl) dX11_moveMain_10)
def wX11_moveAmendment (p1 : Int) (Q : Int → ts_M → Prop) (X : String → ts_M → Prop) (M : ts_M) : Prop :=
  (wX11_change 3 p1 0 0 (fun r2 M1 => Q r2 M1) X M)
set_option maxRecDepth 100000 in
set_option maxHeartbeats 4000000 in
theorem mX11_moveAmendment {l : Launch} {g : ts_W} (hl : l.stackTraces = false) {p1 : Int} {Q : Int → ts_M → Prop} {X : String → ts_M → Prop} {M : ts_M} : wX11_moveAmendment p1 Q X M → ts_ConX l g yX11_moveAmendment cX11_moveAmendment 2 (some .int) 8 1 6 [.ref (ts_ad g 154), ts_v p1] M (ts_Ri Q) X := by
  intro h0
  refine ts_ConX.of hl (by decide) (Nat.le_of_ble_eq_true rfl) ?_
  intro p e s m args below meth c hx C
  revert h0
  unfold wX11_moveAmendment
  have hl0 : lv_args 0 [.ref (ts_ad g 154), ts_v p1] = [(0, .ref (ts_ad g 154)), (1, ts_v p1)] := rfl
  rw [hl0]
  refine ts_aload_n C dX11_moveAmendment_0 rfl 0 rfl ?_
  refine ts_getC C 3 (by decide) q_1421 dX11_moveAmendment_1 ?_
  refine ts_iload_n C dX11_moveAmendment_4 rfl 1 rfl ?_
  refine ts_iconst C dX11_moveAmendment_5 0 rfl ?_
  refine ts_iconst C dX11_moveAmendment_6 0 rfl ?_
  refine ts_callXVi C hx [ts_cx g 3, ts_v p1, ts_v 0, ts_v 0] (mX11_change hl) kX11_change q_1097 (by decide) shX11 rfl rfl rfl (Nat.le_of_ble_eq_true rfl) ⟨Nat.le_of_ble_eq_true rfl, Nat.le_of_ble_eq_true rfl⟩ ⟨Nat.le_of_ble_eq_true rfl, Nat.le_of_ble_eq_true rfl⟩ ⟨Nat.le_of_ble_eq_true rfl, Nat.le_of_ble_eq_true rfl⟩ dX11_moveAmendment_7 (fun r2 M1 => ?_)
  exact ts_xr (ts_ireti C (Nat.le_of_ble_eq_true rfl) (Nat.le_of_ble_eq_true rfl) dX11_moveAmendment_10)
def wX11_movePostponement (Q : Int → ts_M → Prop) (X : String → ts_M → Prop) (M : ts_M) : Prop :=
  (wX11_change 4 0 0 0 (fun r2 M1 => Q r2 M1) X M)
set_option maxRecDepth 100000 in
set_option maxHeartbeats 4000000 in
theorem mX11_movePostponement {l : Launch} {g : ts_W} (hl : l.stackTraces = false) {Q : Int → ts_M → Prop} {X : String → ts_M → Prop} {M : ts_M} : wX11_movePostponement Q X M → ts_ConX l g yX11_movePostponement cX11_movePostponement 1 (some .int) 8 1 6 [.ref (ts_ad g 154)] M (ts_Ri Q) X := by
  intro h0
  refine ts_ConX.of hl (by decide) (Nat.le_of_ble_eq_true rfl) ?_
  intro p e s m args below meth c hx C
  revert h0
  unfold wX11_movePostponement
  have hl0 : lv_args 0 [.ref (ts_ad g 154)] = [(0, .ref (ts_ad g 154))] := rfl
  rw [hl0]
  refine ts_aload_n C dX11_movePostponement_0 rfl 0 rfl ?_
  refine ts_getC C 4 (by decide) q_1430 dX11_movePostponement_1 ?_
  refine ts_iconst C dX11_movePostponement_4 0 rfl ?_
  refine ts_iconst C dX11_movePostponement_5 0 rfl ?_
  refine ts_iconst C dX11_movePostponement_6 0 rfl ?_
  refine ts_callXVi C hx [ts_cx g 4, ts_v 0, ts_v 0, ts_v 0] (mX11_change hl) kX11_change q_1097 (by decide) shX11 rfl rfl rfl (Nat.le_of_ble_eq_true rfl) ⟨Nat.le_of_ble_eq_true rfl, Nat.le_of_ble_eq_true rfl⟩ ⟨Nat.le_of_ble_eq_true rfl, Nat.le_of_ble_eq_true rfl⟩ ⟨Nat.le_of_ble_eq_true rfl, Nat.le_of_ble_eq_true rfl⟩ dX11_movePostponement_7 (fun r2 M1 => ?_)
  exact ts_xr (ts_ireti C (Nat.le_of_ble_eq_true rfl) (Nat.le_of_ble_eq_true rfl) dX11_movePostponement_10)
def wX11_moveClosure (Q : Int → ts_M → Prop) (X : String → ts_M → Prop) (M : ts_M) : Prop :=
  (wX11_change 5 0 0 0 (fun r2 M1 => Q r2 M1) X M)
set_option maxRecDepth 100000 in
set_option maxHeartbeats 4000000 in
theorem mX11_moveClosure {l : Launch} {g : ts_W} (hl : l.stackTraces = false) {Q : Int → ts_M → Prop} {X : String → ts_M → Prop} {M : ts_M} : wX11_moveClosure Q X M → ts_ConX l g yX11_moveClosure cX11_moveClosure 1 (some .int) 8 1 6 [.ref (ts_ad g 154)] M (ts_Ri Q) X := by
  intro h0
  refine ts_ConX.of hl (by decide) (Nat.le_of_ble_eq_true rfl) ?_
  intro p e s m args below meth c hx C
  revert h0
  unfold wX11_moveClosure
  have hl0 : lv_args 0 [.ref (ts_ad g 154)] = [(0, .ref (ts_ad g 154))] := rfl
  rw [hl0]
  refine ts_aload_n C dX11_moveClosure_0 rfl 0 rfl ?_
  refine ts_getC C 5 (by decide) q_1439 dX11_moveClosure_1 ?_
  refine ts_iconst C dX11_moveClosure_4 0 rfl ?_
  refine ts_iconst C dX11_moveClosure_5 0 rfl ?_
  refine ts_iconst C dX11_moveClosure_6 0 rfl ?_
  refine ts_callXVi C hx [ts_cx g 5, ts_v 0, ts_v 0, ts_v 0] (mX11_change hl) kX11_change q_1097 (by decide) shX11 rfl rfl rfl (Nat.le_of_ble_eq_true rfl) ⟨Nat.le_of_ble_eq_true rfl, Nat.le_of_ble_eq_true rfl⟩ ⟨Nat.le_of_ble_eq_true rfl, Nat.le_of_ble_eq_true rfl⟩ ⟨Nat.le_of_ble_eq_true rfl, Nat.le_of_ble_eq_true rfl⟩ dX11_moveClosure_7 (fun r2 M1 => ?_)
  exact ts_xr (ts_ireti C (Nat.le_of_ble_eq_true rfl) (Nat.le_of_ble_eq_true rfl) dX11_moveClosure_10)
def wX11_moveAdjournment (Q : Int → ts_M → Prop) (X : String → ts_M → Prop) (M : ts_M) : Prop :=
  (wX11_change 6 0 0 0 (fun r2 M1 => Q r2 M1) X M)
set_option maxRecDepth 100000 in
set_option maxHeartbeats 4000000 in
theorem mX11_moveAdjournment {l : Launch} {g : ts_W} (hl : l.stackTraces = false) {Q : Int → ts_M → Prop} {X : String → ts_M → Prop} {M : ts_M} : wX11_moveAdjournment Q X M → ts_ConX l g yX11_moveAdjournment cX11_moveAdjournment 1 (some .int) 8 1 6 [.ref (ts_ad g 154)] M (ts_Ri Q) X := by
  intro h0
  refine ts_ConX.of hl (by decide) (Nat.le_of_ble_eq_true rfl) ?_
  intro p e s m args below meth c hx C
  revert h0
  unfold wX11_moveAdjournment
  have hl0 : lv_args 0 [.ref (ts_ad g 154)] = [(0, .ref (ts_ad g 154))] := rfl
  rw [hl0]
  refine ts_aload_n C dX11_moveAdjournment_0 rfl 0 rfl ?_
  refine ts_getC C 6 (by decide) q_1448 dX11_moveAdjournment_1 ?_
  refine ts_iconst C dX11_moveAdjournment_4 0 rfl ?_
  refine ts_iconst C dX11_moveAdjournment_5 0 rfl ?_
  refine ts_iconst C dX11_moveAdjournment_6 0 rfl ?_
  refine ts_callXVi C hx [ts_cx g 6, ts_v 0, ts_v 0, ts_v 0] (mX11_change hl) kX11_change q_1097 (by decide) shX11 rfl rfl rfl (Nat.le_of_ble_eq_true rfl) ⟨Nat.le_of_ble_eq_true rfl, Nat.le_of_ble_eq_true rfl⟩ ⟨Nat.le_of_ble_eq_true rfl, Nat.le_of_ble_eq_true rfl⟩ ⟨Nat.le_of_ble_eq_true rfl, Nat.le_of_ble_eq_true rfl⟩ dX11_moveAdjournment_7 (fun r2 M1 => ?_)
  exact ts_xr (ts_ireti C (Nat.le_of_ble_eq_true rfl) (Nat.le_of_ble_eq_true rfl) dX11_moveAdjournment_10)
def wX11_speak (p1 : Int) (Q : Int → ts_M → Prop) (X : String → ts_M → Prop) (M : ts_M) : Prop :=
  (wX11_change 7 p1 0 0 (fun r2 M1 => Q r2 M1) X M)
set_option maxRecDepth 100000 in
set_option maxHeartbeats 4000000 in
theorem mX11_speak {l : Launch} {g : ts_W} (hl : l.stackTraces = false) {p1 : Int} {Q : Int → ts_M → Prop} {X : String → ts_M → Prop} {M : ts_M} : wX11_speak p1 Q X M → ts_ConX l g yX11_speak cX11_speak 2 (some .int) 8 1 6 [.ref (ts_ad g 154), ts_v p1] M (ts_Ri Q) X := by
  intro h0
  refine ts_ConX.of hl (by decide) (Nat.le_of_ble_eq_true rfl) ?_
  intro p e s m args below meth c hx C
  revert h0
  unfold wX11_speak
  have hl0 : lv_args 0 [.ref (ts_ad g 154), ts_v p1] = [(0, .ref (ts_ad g 154)), (1, ts_v p1)] := rfl
  rw [hl0]
  refine ts_aload_n C dX11_speak_0 rfl 0 rfl ?_
  refine ts_getC C 7 (by decide) q_1460 dX11_speak_1 ?_
  refine ts_iload_n C dX11_speak_4 rfl 1 rfl ?_
  refine ts_iconst C dX11_speak_5 0 rfl ?_
  refine ts_iconst C dX11_speak_6 0 rfl ?_
  refine ts_callXVi C hx [ts_cx g 7, ts_v p1, ts_v 0, ts_v 0] (mX11_change hl) kX11_change q_1097 (by decide) shX11 rfl rfl rfl (Nat.le_of_ble_eq_true rfl) ⟨Nat.le_of_ble_eq_true rfl, Nat.le_of_ble_eq_true rfl⟩ ⟨Nat.le_of_ble_eq_true rfl, Nat.le_of_ble_eq_true rfl⟩ ⟨Nat.le_of_ble_eq_true rfl, Nat.le_of_ble_eq_true rfl⟩ dX11_speak_7 (fun r2 M1 => ?_)
  exact ts_xr (ts_ireti C (Nat.le_of_ble_eq_true rfl) (Nat.le_of_ble_eq_true rfl) dX11_speak_10)
def wX11_vote_B19   (Q : Int → ts_M → Prop) (X : String → ts_M → Prop)  (z0 : Int) (M : ts_M) : Prop :=
  ((ts_w z0 = 0 ∨ ts_w z0 = 1) ∧ Q z0 M)
def wX11_vote (Q : Int → ts_M → Prop) (X : String → ts_M → Prop) (M : ts_M) : Prop :=
  (wX11_change 8 0 0 0 (fun r2 M1 => ((¬ (ts_w r2 = 1) → wX11_vote_B19 Q X 0 M1) ∧ (ts_w r2 = 1 → wX11_vote_B19 Q X 1 M1))) X M)
set_option maxRecDepth 100000 in
set_option maxHeartbeats 4000000 in
theorem mX11_vote {l : Launch} {g : ts_W} (hl : l.stackTraces = false) {Q : Int → ts_M → Prop} {X : String → ts_M → Prop} {M : ts_M} : wX11_vote Q X M → ts_ConX l g yX11_vote cX11_vote 1 (some .boolean) 8 1 6 [.ref (ts_ad g 154)] M (ts_Ri Q) X := by
  intro h0
  refine ts_ConX.of hl (by decide) (Nat.le_of_ble_eq_true rfl) ?_
  intro p e s m args below meth c hx C
  have H19 : ∀ (z0 : Int) (M : ts_M), wX11_vote_B19   Q X z0 M → ts_V p l e (ts_rm 8 1 6) s m args below meth c g 1 1 6 (vx_MQ below (ts_Q g (ts_Ri Q)) (ts_X g X) args s 1 6 (ts_A g)) 19 [] [ts_v z0] M := by
    intro  z0 M
    unfold wX11_vote_B19
    exact ts_xr (ts_zreti C (Nat.le_of_ble_eq_true rfl) (Nat.le_of_ble_eq_true rfl) dX11_vote_19)
  revert h0
  unfold wX11_vote
  have hl0 : lv_args 0 [.ref (ts_ad g 154)] = [(0, .ref (ts_ad g 154))] := rfl
  rw [hl0]
  refine ts_aload_n C dX11_vote_0 rfl 0 rfl ?_
  refine ts_getC C 8 (by decide) q_1469 dX11_vote_1 ?_
  refine ts_iconst C dX11_vote_4 0 rfl ?_
  refine ts_iconst C dX11_vote_5 0 rfl ?_
  refine ts_iconst C dX11_vote_6 0 rfl ?_
  refine ts_callXVi C hx [ts_cx g 8, ts_v 0, ts_v 0, ts_v 0] (mX11_change hl) kX11_change q_1097 (by decide) shX11 rfl rfl rfl (Nat.le_of_ble_eq_true rfl) ⟨Nat.le_of_ble_eq_true rfl, Nat.le_of_ble_eq_true rfl⟩ ⟨Nat.le_of_ble_eq_true rfl, Nat.le_of_ble_eq_true rfl⟩ ⟨Nat.le_of_ble_eq_true rfl, Nat.le_of_ble_eq_true rfl⟩ dX11_vote_7 (fun r2 M1 => ?_)
  refine ts_iconst C dX11_vote_10 1 rfl ?_
  refine ts_cmp_ne C rfl tw_1 18 dX11_vote_11 rfl ?_ ?_
  · refine ts_iconst C dX11_vote_18 0 rfl ?_
    exact ts_sub [] rfl (H19 _ _)
  · refine ts_iconst C dX11_vote_14 1 rfl ?_
    refine ts_goto C 19 dX11_vote_15 rfl ?_
    exact ts_sub [] rfl (H19 _ _)
def wX11_spill (p1 : Int) (p2 : Int) (p3 : Int) (Q : Int → ts_M → Prop) (X : String → ts_M → Prop) (M : ts_M) : Prop :=
  (wX11_change 9 p1 p2 p3 (fun r2 M1 => Q r2 M1) X M)
set_option maxRecDepth 100000 in
set_option maxHeartbeats 4000000 in
theorem mX11_spill {l : Launch} {g : ts_W} (hl : l.stackTraces = false) {p1 : Int} {p2 : Int} {p3 : Int} {Q : Int → ts_M → Prop} {X : String → ts_M → Prop} {M : ts_M} : wX11_spill p1 p2 p3 Q X M → ts_ConX l g yX11_spill cX11_spill 4 (some .int) 8 1 6 [.ref (ts_ad g 154), ts_v p1, ts_v p2, ts_v p3] M (ts_Ri Q) X := by
  intro h0
  refine ts_ConX.of hl (by decide) (Nat.le_of_ble_eq_true rfl) ?_
  intro p e s m args below meth c hx C
  revert h0
  unfold wX11_spill
  have hl0 : lv_args 0 [.ref (ts_ad g 154), ts_v p1, ts_v p2, ts_v p3] = [(0, .ref (ts_ad g 154)), (1, ts_v p1), (2, ts_v p2), (3, ts_v p3)] := rfl
  rw [hl0]
  refine ts_aload_n C dX11_spill_0 rfl 0 rfl ?_
  refine ts_getC C 9 (by decide) q_1478 dX11_spill_1 ?_
  refine ts_iload_n C dX11_spill_4 rfl 1 rfl ?_
  refine ts_iload_n C dX11_spill_5 rfl 2 rfl ?_
  refine ts_iload_n C dX11_spill_6 rfl 3 rfl ?_
  refine ts_callXVi C hx [ts_cx g 9, ts_v p1, ts_v p2, ts_v p3] (mX11_change hl) kX11_change q_1097 (by decide) shX11 rfl rfl rfl (Nat.le_of_ble_eq_true rfl) ⟨Nat.le_of_ble_eq_true rfl, Nat.le_of_ble_eq_true rfl⟩ ⟨Nat.le_of_ble_eq_true rfl, Nat.le_of_ble_eq_true rfl⟩ ⟨Nat.le_of_ble_eq_true rfl, Nat.le_of_ble_eq_true rfl⟩ dX11_spill_7 (fun r2 M1 => ?_)
  exact ts_xr (ts_ireti C (Nat.le_of_ble_eq_true rfl) (Nat.le_of_ble_eq_true rfl) dX11_spill_10)
def wX11_mop (p1 : Int) (p2 : Int) (Q : Int → ts_M → Prop) (X : String → ts_M → Prop) (M : ts_M) : Prop :=
  (wX11_change 10 p1 p2 0 (fun r2 M1 => Q r2 M1) X M)
set_option maxRecDepth 100000 in
set_option maxHeartbeats 4000000 in
theorem mX11_mop {l : Launch} {g : ts_W} (hl : l.stackTraces = false) {p1 : Int} {p2 : Int} {Q : Int → ts_M → Prop} {X : String → ts_M → Prop} {M : ts_M} : wX11_mop p1 p2 Q X M → ts_ConX l g yX11_mop cX11_mop 3 (some .int) 8 1 6 [.ref (ts_ad g 154), ts_v p1, ts_v p2] M (ts_Ri Q) X := by
  intro h0
  refine ts_ConX.of hl (by decide) (Nat.le_of_ble_eq_true rfl) ?_
  intro p e s m args below meth c hx C
  revert h0
  unfold wX11_mop
  have hl0 : lv_args 0 [.ref (ts_ad g 154), ts_v p1, ts_v p2] = [(0, .ref (ts_ad g 154)), (1, ts_v p1), (2, ts_v p2)] := rfl
  rw [hl0]
  refine ts_aload_n C dX11_mop_0 rfl 0 rfl ?_
  refine ts_getC C 10 (by decide) q_1487 dX11_mop_1 ?_
  refine ts_iload_n C dX11_mop_4 rfl 1 rfl ?_
  refine ts_iload_n C dX11_mop_5 rfl 2 rfl ?_
  refine ts_iconst C dX11_mop_6 0 rfl ?_
  refine ts_callXVi C hx [ts_cx g 10, ts_v p1, ts_v p2, ts_v 0] (mX11_change hl) kX11_change q_1097 (by decide) shX11 rfl rfl rfl (Nat.le_of_ble_eq_true rfl) ⟨Nat.le_of_ble_eq_true rfl, Nat.le_of_ble_eq_true rfl⟩ ⟨Nat.le_of_ble_eq_true rfl, Nat.le_of_ble_eq_true rfl⟩ ⟨Nat.le_of_ble_eq_true rfl, Nat.le_of_ble_eq_true rfl⟩ dX11_mop_7 (fun r2 M1 => ?_)
  exact ts_xr (ts_ireti C (Nat.le_of_ble_eq_true rfl) (Nat.le_of_ble_eq_true rfl) dX11_mop_10)
def wX11_giveSugar (p1 : Int) (p2 : Int) (Q : Int → ts_M → Prop) (X : String → ts_M → Prop) (M : ts_M) : Prop :=
  (wX11_change 11 p1 p2 0 (fun r2 M1 => Q r2 M1) X M)
set_option maxRecDepth 100000 in
set_option maxHeartbeats 4000000 in
theorem mX11_giveSugar {l : Launch} {g : ts_W} (hl : l.stackTraces = false) {p1 : Int} {p2 : Int} {Q : Int → ts_M → Prop} {X : String → ts_M → Prop} {M : ts_M} : wX11_giveSugar p1 p2 Q X M → ts_ConX l g yX11_giveSugar cX11_giveSugar 3 (some .int) 8 1 6 [.ref (ts_ad g 154), ts_v p1, ts_v p2] M (ts_Ri Q) X := by
  intro h0
  refine ts_ConX.of hl (by decide) (Nat.le_of_ble_eq_true rfl) ?_
  intro p e s m args below meth c hx C
  revert h0
  unfold wX11_giveSugar
  have hl0 : lv_args 0 [.ref (ts_ad g 154), ts_v p1, ts_v p2] = [(0, .ref (ts_ad g 154)), (1, ts_v p1), (2, ts_v p2)] := rfl
  rw [hl0]
  refine ts_aload_n C dX11_giveSugar_0 rfl 0 rfl ?_
  refine ts_getC C 11 (by decide) q_1496 dX11_giveSugar_1 ?_
  refine ts_iload_n C dX11_giveSugar_4 rfl 1 rfl ?_
  refine ts_iload_n C dX11_giveSugar_5 rfl 2 rfl ?_
  refine ts_iconst C dX11_giveSugar_6 0 rfl ?_
  refine ts_callXVi C hx [ts_cx g 11, ts_v p1, ts_v p2, ts_v 0] (mX11_change hl) kX11_change q_1097 (by decide) shX11 rfl rfl rfl (Nat.le_of_ble_eq_true rfl) ⟨Nat.le_of_ble_eq_true rfl, Nat.le_of_ble_eq_true rfl⟩ ⟨Nat.le_of_ble_eq_true rfl, Nat.le_of_ble_eq_true rfl⟩ ⟨Nat.le_of_ble_eq_true rfl, Nat.le_of_ble_eq_true rfl⟩ dX11_giveSugar_7 (fun r2 M1 => ?_)
  exact ts_xr (ts_ireti C (Nat.le_of_ble_eq_true rfl) (Nat.le_of_ble_eq_true rfl) dX11_giveSugar_10)
def wX11_runScript (Q : Int → ts_M → Prop) (X : String → ts_M → Prop) (M : ts_M) : Prop :=
  (wX7_readAll  (fun r2 M1 => (∀ x3 : Int, x3 = r2 → (wX7_emptyBuffer  (fun M4 => ((ts_w x3 = (-1) → (wX11_firstFailureOnDraft  (fun r6 M5 => (∀ x7 : Int, x7 = r6 → ((ts_w x7 = (-1) → (wX3_remember 0 (fun M8 => (wX9_copyFrom 0 14 (fun M9 => Q (M9.1 160 4) M9) M8)) M5)) ∧ (¬ (ts_w x7 = (-1)) → (∀ M10, M10 = ts_si M5 154 9 x7 → X "java/lang/IllegalStateException" M10))))) M4)) ∧ (¬ (ts_w x3 = (-1)) → (∀ M11, M11 = ts_si M4 154 8 x3 → X "java/lang/IllegalArgumentException" M11)))) M1))) M)
set_option maxRecDepth 100000 in
set_option maxHeartbeats 4000000 in
theorem mX11_runScript {l : Launch} {g : ts_W} (hl : l.stackTraces = false) {Q : Int → ts_M → Prop} {X : String → ts_M → Prop} {M : ts_M} : wX11_runScript Q X M → ts_ConX l g yX11_runScript cX11_runScript 3 (some .int) 7 1 6 [.ref (ts_ad g 154)] M (ts_Ri Q) X := by
  intro h0
  refine ts_ConX.of hl (by decide) (Nat.le_of_ble_eq_true rfl) ?_
  intro p e s m args below meth c hx C
  revert h0
  unfold wX11_runScript
  have hl0 : lv_args 0 [.ref (ts_ad g 154)] = [(0, .ref (ts_ad g 154))] := rfl
  rw [hl0]
  refine ts_aload_n C dX11_runScript_0 rfl 0 rfl ?_
  refine tgX11_5 C q_433 dX11_runScript_1 ?_
  refine ts_callVi C [] (mX7_readAll hl) kX7_readAll q_1855 (by decide) shX7 rfl rfl rfl (Nat.le_of_ble_eq_true rfl) ⟨Nat.le_of_ble_eq_true rfl, Nat.le_of_ble_eq_true rfl⟩ ⟨Nat.le_of_ble_eq_true rfl, Nat.le_of_ble_eq_true rfl⟩ dX11_runScript_4 (fun r2 M1 => ?_)
  refine ts_istore_n C dX11_runScript_7 rfl (by decide) (lv' := fun x3 => [(1, ts_v x3), (0, .ref (ts_ad g 154))]) (fun _ => rfl) (fun x3 => ?_)
  refine ts_aload_n C dX11_runScript_8 rfl 1 rfl ?_
  refine tgX11_5 C q_433 dX11_runScript_9 ?_
  refine ts_callVv C [] (mX7_emptyBuffer hl) kX7_emptyBuffer q_1893 (by decide) shX7 rfl rfl rfl (Nat.le_of_ble_eq_true rfl) ⟨Nat.le_of_ble_eq_true rfl, Nat.le_of_ble_eq_true rfl⟩ ⟨Nat.le_of_ble_eq_true rfl, Nat.le_of_ble_eq_true rfl⟩ dX11_runScript_12 (fun M4 => ?_)
  refine ts_iload_n C dX11_runScript_15 rfl 0 rfl ?_
  refine ts_iconst C dX11_runScript_16 (-1) rfl ?_
  refine ts_cmp_eq C rfl tw_m1 36 dX11_runScript_17 rfl ?_ ?_
  · refine ts_aload_n C dX11_runScript_36 rfl 1 rfl ?_
    refine ts_callVi C [] (mX11_firstFailureOnDraft hl) kX11_firstFailureOnDraft q_1898 (by decide) shX11 rfl rfl rfl (Nat.le_of_ble_eq_true rfl) ⟨Nat.le_of_ble_eq_true rfl, Nat.le_of_ble_eq_true rfl⟩ ⟨Nat.le_of_ble_eq_true rfl, Nat.le_of_ble_eq_true rfl⟩ dX11_runScript_37 (fun r6 M5 => ?_)
    refine ts_istore_n C dX11_runScript_40 rfl (by decide) (lv' := fun x7 => [(2, ts_v x7), (1, ts_v x3), (0, .ref (ts_ad g 154))]) (fun _ => rfl) (fun x7 => ?_)
    refine ts_iload_n C dX11_runScript_41 rfl 0 rfl ?_
    refine ts_iconst C dX11_runScript_42 (-1) rfl ?_
    refine ts_cmp_eq C rfl tw_m1 62 dX11_runScript_43 rfl ?_ ?_
    · refine ts_aload_n C dX11_runScript_62 rfl 2 rfl ?_
      refine tgX11_3 C q_431 dX11_runScript_63 ?_
      refine ts_aload_n C dX11_runScript_66 rfl 2 rfl ?_
      refine tgX11_0 C q_428 dX11_runScript_67 ?_
      refine ts_callVv C [.ref (ts_ad g 0)] (mX3_remember hl ts_iS0) kX3_remember q_1247 (by decide) shX3 rfl rfl rfl (Nat.le_of_ble_eq_true rfl) ⟨Nat.le_of_ble_eq_true rfl, Nat.le_of_ble_eq_true rfl⟩ ⟨Nat.le_of_ble_eq_true rfl, Nat.le_of_ble_eq_true rfl⟩ dX11_runScript_70 (fun M8 => ?_)
      refine ts_aload_n C dX11_runScript_73 rfl 2 rfl ?_
      refine tgX11_0 C q_428 dX11_runScript_74 ?_
      refine ts_aload_n C dX11_runScript_77 rfl 2 rfl ?_
      refine tgX11_1 C q_429 dX11_runScript_78 ?_
      refine ts_callVv C [.ref (ts_ad g 14)] (mX9_copyFrom hl ts_iS0 ts_iS14) kX9_copyFrom q_1062 (ts_lt0 ts_iS0) (shX9 ts_iS0) rfl rfl rfl (Nat.le_of_ble_eq_true rfl) ⟨Nat.le_of_ble_eq_true rfl, Nat.le_of_ble_eq_true rfl⟩ ⟨Nat.le_of_ble_eq_true rfl, Nat.le_of_ble_eq_true rfl⟩ dX11_runScript_81 (fun M9 => ?_)
      refine ts_aload_n C dX11_runScript_84 rfl 2 rfl ?_
      refine tgX11_5 C q_433 dX11_runScript_85 ?_
      refine tgX7_4 C q_376 dX11_runScript_88 ?_
      exact ts_xr (ts_ireti C (Nat.le_of_ble_eq_true rfl) (Nat.le_of_ble_eq_true rfl) dX11_runScript_91)
    · refine ts_aload_n C dX11_runScript_46 rfl 2 rfl ?_
      refine ts_iload_n C dX11_runScript_47 rfl 0 rfl ?_
      refine tpX11_9 C q_437 dX11_runScript_48 (fun M10 => ?_)
      exact ts_thrW (text := "a command of the script failed") (sx := 222) (names := ["java/lang/RuntimeException", "java/lang/Exception"]) C hx egIS_ok enIS_ok eaIS eoIS q_1183 q_141 (by decide) (by decide +kernel) (by decide +kernel) dX11_runScript_51 dX11_runScript_54 dX11_runScript_55 dX11_runScript_58 dX11_runScript_61 (Nat.le_of_ble_eq_true rfl) (Nat.le_of_ble_eq_true rfl) (Nat.le_of_ble_eq_true rfl) (Nat.le_of_ble_eq_true rfl) (Nat.le_of_ble_eq_true rfl) (Nat.le_of_ble_eq_true rfl)
  · refine ts_aload_n C dX11_runScript_20 rfl 1 rfl ?_
    refine ts_iload_n C dX11_runScript_21 rfl 0 rfl ?_
    refine tpX11_8 C q_436 dX11_runScript_22 (fun M11 => ?_)
    exact ts_thrW (text := "the script does not have the required form") (sx := 221) (names := ["java/lang/RuntimeException", "java/lang/Exception"]) C hx egIA_ok enIA_ok eaIA eoIA q_1179 q_140 (by decide) (by decide +kernel) (by decide +kernel) dX11_runScript_25 dX11_runScript_28 dX11_runScript_29 dX11_runScript_32 dX11_runScript_35 (Nat.le_of_ble_eq_true rfl) (Nat.le_of_ble_eq_true rfl) (Nat.le_of_ble_eq_true rfl) (Nat.le_of_ble_eq_true rfl) (Nat.le_of_ble_eq_true rfl) (Nat.le_of_ble_eq_true rfl)
