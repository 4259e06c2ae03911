theorem q_165o : Cond.code Lib.objectInit ⟨#[0xb1]⟩ 1 none ∈ lw_good := ts_gd (List.mem_of_getElem? (i := 165) (by decide +kernel)) (by decide +kernel)
theorem q_177 : Cond.methodLink "TeaspoonSalon$Spoons" 3 ⟨"java/lang/Object", "<init>", "()V"⟩ ∈ lw_good := ts_gd (List.mem_of_getElem? (i := 177) (by decide +kernel)) (by decide +kernel)
theorem q_213 : Cond.arrayClass .int ∈ lw_good := ts_gd (List.mem_of_getElem? (i := 213) (by decide +kernel)) (by decide +kernel)
theorem q_176 : Cond.code yX8_init cX8_init 1 none ∈ lw_good := ts_gd (List.mem_of_getElem? (i := 176) (by decide +kernel)) (by decide +kernel)
theorem q_175 : Cond.instanceMethod ⟨"TeaspoonSalon$Spoons", "<init>", "()V"⟩ ∈ lw_good := ts_gd (List.mem_of_getElem? (i := 175) (by decide +kernel)) (by decide +kernel)
theorem q_219 : Cond.methodLink "TeaspoonSalon$Proposals" 3 ⟨"java/lang/Object", "<init>", "()V"⟩ ∈ lw_good := ts_gd (List.mem_of_getElem? (i := 219) (by decide +kernel)) (by decide +kernel)
theorem q_218 : Cond.code yX4_init cX4_init 1 none ∈ lw_good := ts_gd (List.mem_of_getElem? (i := 218) (by decide +kernel)) (by decide +kernel)
theorem q_217 : Cond.instanceMethod ⟨"TeaspoonSalon$Proposals", "<init>", "()V"⟩ ∈ lw_good := ts_gd (List.mem_of_getElem? (i := 217) (by decide +kernel)) (by decide +kernel)
theorem q_245 : Cond.methodLink "TeaspoonSalon$Table" 3 ⟨"java/lang/Object", "<init>", "()V"⟩ ∈ lw_good := ts_gd (List.mem_of_getElem? (i := 245) (by decide +kernel)) (by decide +kernel)
theorem q_244 : Cond.code yX10_init cX10_init 1 none ∈ lw_good := ts_gd (List.mem_of_getElem? (i := 244) (by decide +kernel)) (by decide +kernel)
theorem q_243 : Cond.instanceMethod ⟨"TeaspoonSalon$Table", "<init>", "()V"⟩ ∈ lw_good := ts_gd (List.mem_of_getElem? (i := 243) (by decide +kernel)) (by decide +kernel)
theorem q_275 : Cond.methodLink "TeaspoonSalon$Cloth" 1 ⟨"java/lang/Object", "<init>", "()V"⟩ ∈ lw_good := ts_gd (List.mem_of_getElem? (i := 275) (by decide +kernel)) (by decide +kernel)
theorem q_288 : Cond.arrayClass .long ∈ lw_good := ts_gd (List.mem_of_getElem? (i := 288) (by decide +kernel)) (by decide +kernel)
theorem q_274 : Cond.code yX1_init cX1_init 1 none ∈ lw_good := ts_gd (List.mem_of_getElem? (i := 274) (by decide +kernel)) (by decide +kernel)
theorem q_273 : Cond.instanceMethod ⟨"TeaspoonSalon$Cloth", "<init>", "()V"⟩ ∈ lw_good := ts_gd (List.mem_of_getElem? (i := 273) (by decide +kernel)) (by decide +kernel)
theorem q_352 : Cond.methodLink "TeaspoonSalon$Ranking" 3 ⟨"java/lang/Object", "<init>", "()V"⟩ ∈ lw_good := ts_gd (List.mem_of_getElem? (i := 352) (by decide +kernel)) (by decide +kernel)
theorem tb_36 : (Int8.ofInt 36).toInt32 = ts_I 36 := by decide +kernel
theorem tw_36 : ts_w 36 = 36 := by decide +kernel
theorem q_351 : Cond.code yX5_init cX5_init 1 none ∈ lw_good := ts_gd (List.mem_of_getElem? (i := 351) (by decide +kernel)) (by decide +kernel)
theorem q_350 : Cond.instanceMethod ⟨"TeaspoonSalon$Ranking", "<init>", "()V"⟩ ∈ lw_good := ts_gd (List.mem_of_getElem? (i := 350) (by decide +kernel)) (by decide +kernel)
theorem q_368 : Cond.methodLink "TeaspoonSalon$Script" 3 ⟨"java/lang/Object", "<init>", "()V"⟩ ∈ lw_good := ts_gd (List.mem_of_getElem? (i := 368) (by decide +kernel)) (by decide +kernel)
theorem q_394 : Cond.arrayClass .char ∈ lw_good := ts_gd (List.mem_of_getElem? (i := 394) (by decide +kernel)) (by decide +kernel)
theorem q_369 : Cond.classLink "TeaspoonSalon$Script" 15 "TeaspoonSalon$Command" ∈ lw_good := ts_gd (List.mem_of_getElem? (i := 369) (by decide +kernel)) (by decide +kernel)
theorem q_367 : Cond.code yX7_init cX7_init 1 none ∈ lw_good := ts_gd (List.mem_of_getElem? (i := 367) (by decide +kernel)) (by decide +kernel)
theorem q_366 : Cond.instanceMethod ⟨"TeaspoonSalon$Script", "<init>", "()V"⟩ ∈ lw_good := ts_gd (List.mem_of_getElem? (i := 366) (by decide +kernel)) (by decide +kernel)
theorem q_1957 : Cond.methodLink "TeaspoonSalonModel" 1 ⟨"java/lang/Object", "<init>", "()V"⟩ ∈ lw_good := ts_gd (List.mem_of_getElem? (i := 1957) (by decide +kernel)) (by decide +kernel)
theorem tsp_1168 : (Int16.ofInt 1168).toInt32 = ts_I 1168 := by decide +kernel
theorem tw_1168 : ts_w 1168 = 1168 := by decide +kernel
theorem tb_80 : (Int8.ofInt 80).toInt32 = ts_I 80 := by decide +kernel
theorem tw_80 : ts_w 80 = 80 := by decide +kernel
theorem q_1956 : Cond.code yX12_init cX12_init 1 none ∈ lw_good := ts_gd (List.mem_of_getElem? (i := 1956) (by decide +kernel)) (by decide +kernel)
theorem q_1955 : Cond.instanceMethod ⟨"TeaspoonSalonModel", "<init>", "()V"⟩ ∈ lw_good := ts_gd (List.mem_of_getElem? (i := 1955) (by decide +kernel)) (by decide +kernel)
theorem q_171 : Cond.methodLink "TeaspoonSalon$State" 3 ⟨"java/lang/Object", "<init>", "()V"⟩ ∈ lw_good := ts_gd (List.mem_of_getElem? (i := 171) (by decide +kernel)) (by decide +kernel)
theorem q_172 : Cond.classLink "TeaspoonSalon$State" 9 "TeaspoonSalon$Spoons" ∈ lw_good := ts_gd (List.mem_of_getElem? (i := 172) (by decide +kernel)) (by decide +kernel)
theorem q_173 : Cond.instantiable "TeaspoonSalon$Spoons" 8 ∈ lw_good := ts_gd (List.mem_of_getElem? (i := 173) (by decide +kernel)) (by decide +kernel)
theorem qn_1 : Cond.methodLinkNest "TeaspoonSalon$State" 11 ⟨"TeaspoonSalon$Spoons", "<init>", "()V"⟩ "TeaspoonSalon" ∈ ts_nw := List.mem_of_getElem? (i := 1) (by decide +kernel)
theorem q_214 : Cond.classLink "TeaspoonSalon$State" 18 "TeaspoonSalon$Proposals" ∈ lw_good := ts_gd (List.mem_of_getElem? (i := 214) (by decide +kernel)) (by decide +kernel)
theorem q_215 : Cond.instantiable "TeaspoonSalon$Proposals" 4 ∈ lw_good := ts_gd (List.mem_of_getElem? (i := 215) (by decide +kernel)) (by decide +kernel)
theorem qn_2 : Cond.methodLinkNest "TeaspoonSalon$State" 20 ⟨"TeaspoonSalon$Proposals", "<init>", "()V"⟩ "TeaspoonSalon" ∈ ts_nw := List.mem_of_getElem? (i := 2) (by decide +kernel)
theorem q_240 : Cond.classLink "TeaspoonSalon$State" 25 "TeaspoonSalon$Table" ∈ lw_good := ts_gd (List.mem_of_getElem? (i := 240) (by decide +kernel)) (by decide +kernel)
theorem q_241 : Cond.instantiable "TeaspoonSalon$Table" 5 ∈ lw_good := ts_gd (List.mem_of_getElem? (i := 241) (by decide +kernel)) (by decide +kernel)
theorem qn_3 : Cond.methodLinkNest "TeaspoonSalon$State" 27 ⟨"TeaspoonSalon$Table", "<init>", "()V"⟩ "TeaspoonSalon" ∈ ts_nw := List.mem_of_getElem? (i := 3) (by decide +kernel)
theorem q_270 : Cond.classLink "TeaspoonSalon$State" 32 "TeaspoonSalon$Cloth" ∈ lw_good := ts_gd (List.mem_of_getElem? (i := 270) (by decide +kernel)) (by decide +kernel)
theorem q_271 : Cond.instantiable "TeaspoonSalon$Cloth" 3 ∈ lw_good := ts_gd (List.mem_of_getElem? (i := 271) (by decide +kernel)) (by decide +kernel)
theorem qn_4 : Cond.methodLinkNest "TeaspoonSalon$State" 34 ⟨"TeaspoonSalon$Cloth", "<init>", "()V"⟩ "TeaspoonSalon" ∈ ts_nw := List.mem_of_getElem? (i := 4) (by decide +kernel)
theorem q_170 : Cond.code yX9_init cX9_init 1 none ∈ lw_good := ts_gd (List.mem_of_getElem? (i := 170) (by decide +kernel)) (by decide +kernel)
theorem q_169 : Cond.instanceMethod ⟨"TeaspoonSalon$State", "<init>", "()V"⟩ ∈ lw_good := ts_gd (List.mem_of_getElem? (i := 169) (by decide +kernel)) (by decide +kernel)
set_option maxRecDepth 100000 in
set_option maxHeartbeats 4000000 in
theorem nX8_init {l : Launch} {γ : ts_γ} (a : Nat) : ts_ConN l γ yX8_init cX8_init 1 1 4 32 a [] (.inr (9, [.null, .null, .null, .null, ts_v 0, ts_v 0, ts_v 0, ts_v 0])) (fun w => ∃ v1 v2 v3 v4 : Nat, w = [(a, .inr (9, [.ref v1, .ref v2, .ref v3, .ref v4, ts_v 0, ts_v 0, ts_v 0, ts_v 0])), (v1, .inl (γ.2 0, 8, .inl (fun _ => ts_I 0))), (v2, .inl (γ.2 0, 8, .inl (fun _ => ts_I 0))), (v3, .inl (γ.2 0, 8, .inl (fun _ => ts_I 0))), (v4, .inl (γ.2 0, 8, .inl (fun _ => ts_I 0)))]) := by
  refine ts_ConN.of (by decide) rfl (Nat.le_of_ble_eq_true rfl) ?_
  intro sz p e s m args below meth c hin2 C
  refine tn_aload_n C dX8_init_0 rfl 0 rfl ?_
  refine tn_obj C q_177 q_164 q_165o (Nat.le_of_ble_eq_true rfl) ⟨Nat.le_of_ble_eq_true rfl, Nat.le_of_ble_eq_true rfl⟩ dX8_init_1 ?_
  refine tn_aload_n C dX8_init_4 rfl 0 rfl ?_
  refine tn_bipush C dX8_init_5 8 tb_8 ?_
  refine tn_newa_int C 8 tw_8 (by decide) q_213 ⟨Nat.le_of_ble_eq_true rfl, Nat.le_of_ble_eq_true rfl⟩ dX8_init_7 (fun v1 => ?_)
  refine tn_cv [(a, .inr (9, [.null, .null, .null, .null, ts_v 0, ts_v 0, ts_v 0, ts_v 0])), (v1, .inl (γ.2 0, 8, .inl (fun _ => ts_I 0)))] rfl ?_
  refine tn_putF C hin2 0 0 rfl rfl inX8 tyX8 tyX8_ok nmX8 (by decide) q_178 rfl rfl rfl rfl rfl (by simp) dX8_init_9 ?_
  refine tn_cv [(a, .inr (9, [.ref v1, .null, .null, .null, ts_v 0, ts_v 0, ts_v 0, ts_v 0])), (v1, .inl (γ.2 0, 8, .inl (fun _ => ts_I 0)))] rfl ?_
  refine tn_aload_n C dX8_init_12 rfl 0 rfl ?_
  refine tn_bipush C dX8_init_13 8 tb_8 ?_
  refine tn_newa_int C 8 tw_8 (by decide) q_213 ⟨Nat.le_of_ble_eq_true rfl, Nat.le_of_ble_eq_true rfl⟩ dX8_init_15 (fun v2 => ?_)
  refine tn_cv [(a, .inr (9, [.ref v1, .null, .null, .null, ts_v 0, ts_v 0, ts_v 0, ts_v 0])), (v1, .inl (γ.2 0, 8, .inl (fun _ => ts_I 0))), (v2, .inl (γ.2 0, 8, .inl (fun _ => ts_I 0)))] rfl ?_
  refine tn_putF C hin2 0 1 rfl rfl inX8 tyX8 tyX8_ok nmX8 (by decide) q_181 rfl rfl rfl rfl rfl (by simp) dX8_init_17 ?_
  refine tn_cv [(a, .inr (9, [.ref v1, .ref v2, .null, .null, ts_v 0, ts_v 0, ts_v 0, ts_v 0])), (v1, .inl (γ.2 0, 8, .inl (fun _ => ts_I 0))), (v2, .inl (γ.2 0, 8, .inl (fun _ => ts_I 0)))] rfl ?_
  refine tn_aload_n C dX8_init_20 rfl 0 rfl ?_
  refine tn_bipush C dX8_init_21 8 tb_8 ?_
  refine tn_newa_int C 8 tw_8 (by decide) q_213 ⟨Nat.le_of_ble_eq_true rfl, Nat.le_of_ble_eq_true rfl⟩ dX8_init_23 (fun v3 => ?_)
  refine tn_cv [(a, .inr (9, [.ref v1, .ref v2, .null, .null, ts_v 0, ts_v 0, ts_v 0, ts_v 0])), (v1, .inl (γ.2 0, 8, .inl (fun _ => ts_I 0))), (v2, .inl (γ.2 0, 8, .inl (fun _ => ts_I 0))), (v3, .inl (γ.2 0, 8, .inl (fun _ => ts_I 0)))] rfl ?_
  refine tn_putF C hin2 0 2 rfl rfl inX8 tyX8 tyX8_ok nmX8 (by decide) q_184 rfl rfl rfl rfl rfl (by simp) dX8_init_25 ?_
  refine tn_cv [(a, .inr (9, [.ref v1, .ref v2, .ref v3, .null, ts_v 0, ts_v 0, ts_v 0, ts_v 0])), (v1, .inl (γ.2 0, 8, .inl (fun _ => ts_I 0))), (v2, .inl (γ.2 0, 8, .inl (fun _ => ts_I 0))), (v3, .inl (γ.2 0, 8, .inl (fun _ => ts_I 0)))] rfl ?_
  refine tn_aload_n C dX8_init_28 rfl 0 rfl ?_
  refine tn_bipush C dX8_init_29 8 tb_8 ?_
  refine tn_newa_int C 8 tw_8 (by decide) q_213 ⟨Nat.le_of_ble_eq_true rfl, Nat.le_of_ble_eq_true rfl⟩ dX8_init_31 (fun v4 => ?_)
  refine tn_cv [(a, .inr (9, [.ref v1, .ref v2, .ref v3, .null, ts_v 0, ts_v 0, ts_v 0, ts_v 0])), (v1, .inl (γ.2 0, 8, .inl (fun _ => ts_I 0))), (v2, .inl (γ.2 0, 8, .inl (fun _ => ts_I 0))), (v3, .inl (γ.2 0, 8, .inl (fun _ => ts_I 0))), (v4, .inl (γ.2 0, 8, .inl (fun _ => ts_I 0)))] rfl ?_
  refine tn_putF C hin2 0 3 rfl rfl inX8 tyX8 tyX8_ok nmX8 (by decide) q_187 rfl rfl rfl rfl rfl (by simp) dX8_init_33 ?_
  refine tn_cv [(a, .inr (9, [.ref v1, .ref v2, .ref v3, .ref v4, ts_v 0, ts_v 0, ts_v 0, ts_v 0])), (v1, .inl (γ.2 0, 8, .inl (fun _ => ts_I 0))), (v2, .inl (γ.2 0, 8, .inl (fun _ => ts_I 0))), (v3, .inl (γ.2 0, 8, .inl (fun _ => ts_I 0))), (v4, .inl (γ.2 0, 8, .inl (fun _ => ts_I 0)))] rfl ?_
  exact tn_ret C (Nat.le_of_ble_eq_true rfl) (Nat.le_of_ble_eq_true rfl) dX8_init_36 ⟨v1, v2, v3, v4, rfl⟩
theorem kcX8 : ts_Yc yX8_init cX8_init 1 0 := ⟨q_175, q_121, q_176, by decide +kernel, by decide +kernel, rfl⟩
set_option maxRecDepth 100000 in
set_option maxHeartbeats 4000000 in
theorem nX4_init {l : Launch} {γ : ts_γ} (a : Nat) : ts_ConN l γ yX4_init cX4_init 1 1 2 12 a [] (.inr (6, [.null, .null, ts_v 0, ts_v 0])) (fun w => ∃ v1 v2 : Nat, w = [(a, .inr (6, [.ref v1, .ref v2, ts_v 0, ts_v 0])), (v1, .inl (γ.2 0, 6, .inl (fun _ => ts_I 0))), (v2, .inl (γ.2 0, 6, .inl (fun _ => ts_I 0)))]) := by
  refine ts_ConN.of (by decide) rfl (Nat.le_of_ble_eq_true rfl) ?_
  intro sz p e s m args below meth c hin2 C
  refine tn_aload_n C dX4_init_0 rfl 0 rfl ?_
  refine tn_obj C q_219 q_164 q_165o (Nat.le_of_ble_eq_true rfl) ⟨Nat.le_of_ble_eq_true rfl, Nat.le_of_ble_eq_true rfl⟩ dX4_init_1 ?_
  refine tn_aload_n C dX4_init_4 rfl 0 rfl ?_
  refine tn_bipush C dX4_init_5 6 tb_6 ?_
  refine tn_newa_int C 6 tw_6 (by decide) q_213 ⟨Nat.le_of_ble_eq_true rfl, Nat.le_of_ble_eq_true rfl⟩ dX4_init_7 (fun v1 => ?_)
  refine tn_cv [(a, .inr (6, [.null, .null, ts_v 0, ts_v 0])), (v1, .inl (γ.2 0, 6, .inl (fun _ => ts_I 0)))] rfl ?_
  refine tn_putF C hin2 0 0 rfl rfl inX4 tyX4 tyX4_ok nmX4 (by decide) q_220 rfl rfl rfl rfl rfl (by simp) dX4_init_9 ?_
  refine tn_cv [(a, .inr (6, [.ref v1, .null, ts_v 0, ts_v 0])), (v1, .inl (γ.2 0, 6, .inl (fun _ => ts_I 0)))] rfl ?_
  refine tn_aload_n C dX4_init_12 rfl 0 rfl ?_
  refine tn_bipush C dX4_init_13 6 tb_6 ?_
  refine tn_newa_int C 6 tw_6 (by decide) q_213 ⟨Nat.le_of_ble_eq_true rfl, Nat.le_of_ble_eq_true rfl⟩ dX4_init_15 (fun v2 => ?_)
  refine tn_cv [(a, .inr (6, [.ref v1, .null, ts_v 0, ts_v 0])), (v1, .inl (γ.2 0, 6, .inl (fun _ => ts_I 0))), (v2, .inl (γ.2 0, 6, .inl (fun _ => ts_I 0)))] rfl ?_
  refine tn_putF C hin2 0 1 rfl rfl inX4 tyX4 tyX4_ok nmX4 (by decide) q_223 rfl rfl rfl rfl rfl (by simp) dX4_init_17 ?_
  refine tn_cv [(a, .inr (6, [.ref v1, .ref v2, ts_v 0, ts_v 0])), (v1, .inl (γ.2 0, 6, .inl (fun _ => ts_I 0))), (v2, .inl (γ.2 0, 6, .inl (fun _ => ts_I 0)))] rfl ?_
  exact tn_ret C (Nat.le_of_ble_eq_true rfl) (Nat.le_of_ble_eq_true rfl) dX4_init_20 ⟨v1, v2, rfl⟩
theorem kcX4 : ts_Yc yX4_init cX4_init 1 0 := ⟨q_217, q_122, q_218, by decide +kernel, by decide +kernel, rfl⟩
set_option maxRecDepth 100000 in
set_option maxHeartbeats 4000000 in
theorem nX10_init {l : Launch} {γ : ts_γ} (a : Nat) : ts_ConN l γ yX10_init cX10_init 1 1 1 5 a [] (.inr (11, [.null, ts_v 0, ts_v 0, ts_v 0, ts_v 0])) (fun w => ∃ v1 : Nat, w = [(a, .inr (11, [.ref v1, ts_v 0, ts_v 0, ts_v 0, ts_v 0])), (v1, .inl (γ.2 0, 5, .inl (fun _ => ts_I 0)))]) := by
  refine ts_ConN.of (by decide) rfl (Nat.le_of_ble_eq_true rfl) ?_
  intro sz p e s m args below meth c hin2 C
  refine tn_aload_n C dX10_init_0 rfl 0 rfl ?_
  refine tn_obj C q_245 q_164 q_165o (Nat.le_of_ble_eq_true rfl) ⟨Nat.le_of_ble_eq_true rfl, Nat.le_of_ble_eq_true rfl⟩ dX10_init_1 ?_
  refine tn_aload_n C dX10_init_4 rfl 0 rfl ?_
  refine tn_iconst C dX10_init_5 5 rfl ?_
  refine tn_newa_int C 5 tw_5 (by decide) q_213 ⟨Nat.le_of_ble_eq_true rfl, Nat.le_of_ble_eq_true rfl⟩ dX10_init_6 (fun v1 => ?_)
  refine tn_cv [(a, .inr (11, [.null, ts_v 0, ts_v 0, ts_v 0, ts_v 0])), (v1, .inl (γ.2 0, 5, .inl (fun _ => ts_I 0)))] rfl ?_
  refine tn_putF C hin2 0 0 rfl rfl inX10 tyX10 tyX10_ok nmX10 (by decide) q_246 rfl rfl rfl rfl rfl (by simp) dX10_init_8 ?_
  refine tn_cv [(a, .inr (11, [.ref v1, ts_v 0, ts_v 0, ts_v 0, ts_v 0])), (v1, .inl (γ.2 0, 5, .inl (fun _ => ts_I 0)))] rfl ?_
  exact tn_ret C (Nat.le_of_ble_eq_true rfl) (Nat.le_of_ble_eq_true rfl) dX10_init_11 ⟨v1, rfl⟩
theorem kcX10 : ts_Yc yX10_init cX10_init 1 0 := ⟨q_243, q_123, q_244, by decide +kernel, by decide +kernel, rfl⟩
set_option maxRecDepth 100000 in
set_option maxHeartbeats 4000000 in
theorem nX1_init {l : Launch} {γ : ts_γ} (a : Nat) : ts_ConN l γ yX1_init cX1_init 1 1 1 64 a [] (.inr (4, [.long 0, .null, ts_v 0])) (fun w => ∃ v1 : Nat, w = [(a, .inr (4, [.long 0, .ref v1, ts_v 0])), (v1, .inl (γ.2 1, 64, .inr (.inl (fun _ => 0))))]) := by
  refine ts_ConN.of (by decide) rfl (Nat.le_of_ble_eq_true rfl) ?_
  intro sz p e s m args below meth c hin2 C
  refine tn_aload_n C dX1_init_0 rfl 0 rfl ?_
  refine tn_obj C q_275 q_164 q_165o (Nat.le_of_ble_eq_true rfl) ⟨Nat.le_of_ble_eq_true rfl, Nat.le_of_ble_eq_true rfl⟩ dX1_init_1 ?_
  refine tn_aload_n C dX1_init_4 rfl 0 rfl ?_
  refine tn_bipush C dX1_init_5 64 tb_64 ?_
  refine tn_newa_long C 64 tw_64 (by decide) q_288 ⟨Nat.le_of_ble_eq_true rfl, Nat.le_of_ble_eq_true rfl⟩ dX1_init_7 (fun v1 => ?_)
  refine tn_cv [(a, .inr (4, [.long 0, .null, ts_v 0])), (v1, .inl (γ.2 1, 64, .inr (.inl (fun _ => 0))))] rfl ?_
  refine tn_putF C hin2 0 1 rfl rfl inX1 tyX1 tyX1_ok nmX1 (by decide) q_279 rfl rfl rfl rfl rfl (by simp) dX1_init_9 ?_
  refine tn_cv [(a, .inr (4, [.long 0, .ref v1, ts_v 0])), (v1, .inl (γ.2 1, 64, .inr (.inl (fun _ => 0))))] rfl ?_
  exact tn_ret C (Nat.le_of_ble_eq_true rfl) (Nat.le_of_ble_eq_true rfl) dX1_init_12 ⟨v1, rfl⟩
theorem kcX1 : ts_Yc yX1_init cX1_init 1 0 := ⟨q_273, q_124, q_274, by decide +kernel, by decide +kernel, rfl⟩
set_option maxRecDepth 100000 in
set_option maxHeartbeats 4000000 in
theorem nX5_init {l : Launch} {γ : ts_γ} (a : Nat) : ts_ConN l γ yX5_init cX5_init 1 1 2 100 a [] (.inr (7, [.null, .null, ts_v 0])) (fun w => ∃ v1 v2 : Nat, w = [(a, .inr (7, [.ref v1, .ref v2, ts_v 0])), (v1, .inl (γ.2 0, 36, .inl (fun _ => ts_I 0))), (v2, .inl (γ.2 0, 64, .inl (fun _ => ts_I 0)))]) := by
  refine ts_ConN.of (by decide) rfl (Nat.le_of_ble_eq_true rfl) ?_
  intro sz p e s m args below meth c hin2 C
  refine tn_aload_n C dX5_init_0 rfl 0 rfl ?_
  refine tn_obj C q_352 q_164 q_165o (Nat.le_of_ble_eq_true rfl) ⟨Nat.le_of_ble_eq_true rfl, Nat.le_of_ble_eq_true rfl⟩ dX5_init_1 ?_
  refine tn_aload_n C dX5_init_4 rfl 0 rfl ?_
  refine tn_bipush C dX5_init_5 36 tb_36 ?_
  refine tn_newa_int C 36 tw_36 (by decide) q_213 ⟨Nat.le_of_ble_eq_true rfl, Nat.le_of_ble_eq_true rfl⟩ dX5_init_7 (fun v1 => ?_)
  refine tn_cv [(a, .inr (7, [.null, .null, ts_v 0])), (v1, .inl (γ.2 0, 36, .inl (fun _ => ts_I 0)))] rfl ?_
  refine tn_putF C hin2 0 0 rfl rfl inX5 tyX5 tyX5_ok nmX5 (by decide) q_353 rfl rfl rfl rfl rfl (by simp) dX5_init_9 ?_
  refine tn_cv [(a, .inr (7, [.ref v1, .null, ts_v 0])), (v1, .inl (γ.2 0, 36, .inl (fun _ => ts_I 0)))] rfl ?_
  refine tn_aload_n C dX5_init_12 rfl 0 rfl ?_
  refine tn_bipush C dX5_init_13 64 tb_64 ?_
  refine tn_newa_int C 64 tw_64 (by decide) q_213 ⟨Nat.le_of_ble_eq_true rfl, Nat.le_of_ble_eq_true rfl⟩ dX5_init_15 (fun v2 => ?_)
  refine tn_cv [(a, .inr (7, [.ref v1, .null, ts_v 0])), (v1, .inl (γ.2 0, 36, .inl (fun _ => ts_I 0))), (v2, .inl (γ.2 0, 64, .inl (fun _ => ts_I 0)))] rfl ?_
  refine tn_putF C hin2 0 1 rfl rfl inX5 tyX5 tyX5_ok nmX5 (by decide) q_354 rfl rfl rfl rfl rfl (by simp) dX5_init_17 ?_
  refine tn_cv [(a, .inr (7, [.ref v1, .ref v2, ts_v 0])), (v1, .inl (γ.2 0, 36, .inl (fun _ => ts_I 0))), (v2, .inl (γ.2 0, 64, .inl (fun _ => ts_I 0)))] rfl ?_
  exact tn_ret C (Nat.le_of_ble_eq_true rfl) (Nat.le_of_ble_eq_true rfl) dX5_init_20 ⟨v1, v2, rfl⟩
theorem kcX5 : ts_Yc yX5_init cX5_init 1 0 := ⟨q_350, q_126, q_351, by decide +kernel, by decide +kernel, rfl⟩
set_option maxRecDepth 100000 in
set_option maxHeartbeats 4000000 in
theorem nX7_init {l : Launch} {γ : ts_γ} (a : Nat) : ts_ConN l γ yX7_init cX7_init 1 1 3 108 a [] (.inr (8, [.null, .null, .null, ts_v 0, ts_v 0, ts_v 0, ts_v 0])) (fun w => ∃ v1 v2 v3 : Nat, w = [(a, .inr (8, [.ref v1, .ref v2, .ref v3, ts_v 0, ts_v 0, ts_v 0, ts_v 0])), (v1, .inl (γ.2 2, 60, .inl (fun _ => ts_I 0))), (v2, .inl (γ.2 6, 12, .inr (.inr (.inr (.inr (fun _ => none)))))), (v3, .inl (γ.2 0, 36, .inl (fun _ => ts_I 0)))]) := by
  refine ts_ConN.of (by decide) rfl (Nat.le_of_ble_eq_true rfl) ?_
  intro sz p e s m args below meth c hin2 C
  refine tn_aload_n C dX7_init_0 rfl 0 rfl ?_
  refine tn_obj C q_368 q_164 q_165o (Nat.le_of_ble_eq_true rfl) ⟨Nat.le_of_ble_eq_true rfl, Nat.le_of_ble_eq_true rfl⟩ dX7_init_1 ?_
  refine tn_aload_n C dX7_init_4 rfl 0 rfl ?_
  refine tn_bipush C dX7_init_5 60 tb_60 ?_
  refine tn_newa_char C 60 tw_60 (by decide) q_394 ⟨Nat.le_of_ble_eq_true rfl, Nat.le_of_ble_eq_true rfl⟩ dX7_init_7 (fun v1 => ?_)
  refine tn_cv [(a, .inr (8, [.null, .null, .null, ts_v 0, ts_v 0, ts_v 0, ts_v 0])), (v1, .inl (γ.2 2, 60, .inl (fun _ => ts_I 0)))] rfl ?_
  refine tn_putF C hin2 0 0 rfl rfl inX7 tyX7 tyX7_ok nmX7 (by decide) q_371 rfl rfl rfl rfl rfl (by simp) dX7_init_9 ?_
  refine tn_cv [(a, .inr (8, [.ref v1, .null, .null, ts_v 0, ts_v 0, ts_v 0, ts_v 0])), (v1, .inl (γ.2 2, 60, .inl (fun _ => ts_I 0)))] rfl ?_
  refine tn_aload_n C dX7_init_12 rfl 0 rfl ?_
  refine tn_bipush C dX7_init_13 12 tb_12 ?_
  refine tn_newq_Command C 12 tw_12 (by decide) q_369 ⟨Nat.le_of_ble_eq_true rfl, Nat.le_of_ble_eq_true rfl⟩ dX7_init_15 (fun v2 => ?_)
  refine tn_cv [(a, .inr (8, [.ref v1, .null, .null, ts_v 0, ts_v 0, ts_v 0, ts_v 0])), (v1, .inl (γ.2 2, 60, .inl (fun _ => ts_I 0))), (v2, .inl (γ.2 6, 12, .inr (.inr (.inr (.inr (fun _ => none))))))] rfl ?_
  refine tn_putF C hin2 0 1 rfl rfl inX7 tyX7 tyX7_ok nmX7 (by decide) q_372 rfl rfl rfl rfl rfl (by simp) dX7_init_18 ?_
  refine tn_cv [(a, .inr (8, [.ref v1, .ref v2, .null, ts_v 0, ts_v 0, ts_v 0, ts_v 0])), (v1, .inl (γ.2 2, 60, .inl (fun _ => ts_I 0))), (v2, .inl (γ.2 6, 12, .inr (.inr (.inr (.inr (fun _ => none))))))] rfl ?_
  refine tn_aload_n C dX7_init_21 rfl 0 rfl ?_
  refine tn_bipush C dX7_init_22 36 tb_36 ?_
  refine tn_newa_int C 36 tw_36 (by decide) q_213 ⟨Nat.le_of_ble_eq_true rfl, Nat.le_of_ble_eq_true rfl⟩ dX7_init_24 (fun v3 => ?_)
  refine tn_cv [(a, .inr (8, [.ref v1, .ref v2, .null, ts_v 0, ts_v 0, ts_v 0, ts_v 0])), (v1, .inl (γ.2 2, 60, .inl (fun _ => ts_I 0))), (v2, .inl (γ.2 6, 12, .inr (.inr (.inr (.inr (fun _ => none)))))), (v3, .inl (γ.2 0, 36, .inl (fun _ => ts_I 0)))] rfl ?_
  refine tn_putF C hin2 0 2 rfl rfl inX7 tyX7 tyX7_ok nmX7 (by decide) q_373 rfl rfl rfl rfl rfl (by simp) dX7_init_26 ?_
  refine tn_cv [(a, .inr (8, [.ref v1, .ref v2, .ref v3, ts_v 0, ts_v 0, ts_v 0, ts_v 0])), (v1, .inl (γ.2 2, 60, .inl (fun _ => ts_I 0))), (v2, .inl (γ.2 6, 12, .inr (.inr (.inr (.inr (fun _ => none)))))), (v3, .inl (γ.2 0, 36, .inl (fun _ => ts_I 0)))] rfl ?_
  exact tn_ret C (Nat.le_of_ble_eq_true rfl) (Nat.le_of_ble_eq_true rfl) dX7_init_29 ⟨v1, v2, v3, rfl⟩
theorem kcX7 : ts_Yc yX7_init cX7_init 1 0 := ⟨q_366, q_127, q_367, by decide +kernel, by decide +kernel, rfl⟩
set_option maxRecDepth 100000 in
set_option maxHeartbeats 4000000 in
theorem nX12_init {l : Launch} {γ : ts_γ} (a : Nat) : ts_ConN l γ yX12_init cX12_init 1 1 10 1941 a [] (.inr (13, [ts_v 0, .null, .null, .null, .null, ts_v 0, ts_v 0, ts_v 0, .null, .null, .null, .null, ts_v 0, .null, ts_v 0, ts_v 0, ts_v 0, ts_v 0, .null, ts_v 0, ts_v 0])) (fun w => ∃ v1 v2 v3 v4 v5 v6 v7 v8 v9 v10 : Nat, w = [(a, .inr (13, [ts_v 0, .ref v1, .ref v2, .ref v3, .ref v4, ts_v 0, ts_v 0, ts_v 0, .ref v5, .ref v6, .ref v7, .ref v8, ts_v 0, .ref v9, ts_v 0, ts_v 0, ts_v (-1), ts_v (-1), .ref v10, ts_v 0, ts_v 0])), (v1, .inl (γ.2 0, 146, .inl (fun _ => ts_I 0))), (v2, .inl (γ.2 0, 1168, .inl (fun _ => ts_I 0))), (v3, .inl (γ.2 0, 146, .inl (fun _ => ts_I 0))), (v4, .inl (γ.2 0, 146, .inl (fun _ => ts_I 0))), (v5, .inl (γ.2 0, 64, .inl (fun _ => ts_I 0))), (v6, .inl (γ.2 0, 64, .inl (fun _ => ts_I 0))), (v7, .inl (γ.2 0, 64, .inl (fun _ => ts_I 0))), (v8, .inl (γ.2 2, 80, .inl (fun _ => ts_I 0))), (v9, .inl (γ.2 2, 60, .inl (fun _ => ts_I 0))), (v10, .inl (γ.2 0, 3, .inl (fun _ => ts_I 0)))]) := by
  refine ts_ConN.of (by decide) rfl (Nat.le_of_ble_eq_true rfl) ?_
  intro sz p e s m args below meth c hin2 C
  refine tn_aload_n C dX12_init_0 rfl 0 rfl ?_
  refine tn_obj C q_1957 q_164 q_165o (Nat.le_of_ble_eq_true rfl) ⟨Nat.le_of_ble_eq_true rfl, Nat.le_of_ble_eq_true rfl⟩ dX12_init_1 ?_
  refine tn_aload_n C dX12_init_4 rfl 0 rfl ?_
  refine tn_sipush C dX12_init_5 146 tsp_146 ?_
  refine tn_newa_int C 146 tw_146 (by decide) q_213 ⟨Nat.le_of_ble_eq_true rfl, Nat.le_of_ble_eq_true rfl⟩ dX12_init_8 (fun v1 => ?_)
  refine tn_cv [(a, .inr (13, [ts_v 0, .null, .null, .null, .null, ts_v 0, ts_v 0, ts_v 0, .null, .null, .null, .null, ts_v 0, .null, ts_v 0, ts_v 0, ts_v 0, ts_v 0, .null, ts_v 0, ts_v 0])), (v1, .inl (γ.2 0, 146, .inl (fun _ => ts_I 0)))] rfl ?_
  refine tn_putF C hin2 0 1 rfl rfl inX12 tyX12 tyX12_ok nmX12 (by decide) q_1959 rfl rfl rfl rfl rfl (by simp) dX12_init_10 ?_
  refine tn_cv [(a, .inr (13, [ts_v 0, .ref v1, .null, .null, .null, ts_v 0, ts_v 0, ts_v 0, .null, .null, .null, .null, ts_v 0, .null, ts_v 0, ts_v 0, ts_v 0, ts_v 0, .null, ts_v 0, ts_v 0])), (v1, .inl (γ.2 0, 146, .inl (fun _ => ts_I 0)))] rfl ?_
  refine tn_aload_n C dX12_init_13 rfl 0 rfl ?_
  refine tn_sipush C dX12_init_14 1168 tsp_1168 ?_
  refine tn_newa_int C 1168 tw_1168 (by decide) q_213 ⟨Nat.le_of_ble_eq_true rfl, Nat.le_of_ble_eq_true rfl⟩ dX12_init_17 (fun v2 => ?_)
  refine tn_cv [(a, .inr (13, [ts_v 0, .ref v1, .null, .null, .null, ts_v 0, ts_v 0, ts_v 0, .null, .null, .null, .null, ts_v 0, .null, ts_v 0, ts_v 0, ts_v 0, ts_v 0, .null, ts_v 0, ts_v 0])), (v1, .inl (γ.2 0, 146, .inl (fun _ => ts_I 0))), (v2, .inl (γ.2 0, 1168, .inl (fun _ => ts_I 0)))] rfl ?_
  refine tn_putF C hin2 0 2 rfl rfl inX12 tyX12 tyX12_ok nmX12 (by decide) q_1960 rfl rfl rfl rfl rfl (by simp) dX12_init_19 ?_
  refine tn_cv [(a, .inr (13, [ts_v 0, .ref v1, .ref v2, .null, .null, ts_v 0, ts_v 0, ts_v 0, .null, .null, .null, .null, ts_v 0, .null, ts_v 0, ts_v 0, ts_v 0, ts_v 0, .null, ts_v 0, ts_v 0])), (v1, .inl (γ.2 0, 146, .inl (fun _ => ts_I 0))), (v2, .inl (γ.2 0, 1168, .inl (fun _ => ts_I 0)))] rfl ?_
  refine tn_aload_n C dX12_init_22 rfl 0 rfl ?_
  refine tn_sipush C dX12_init_23 146 tsp_146 ?_
  refine tn_newa_int C 146 tw_146 (by decide) q_213 ⟨Nat.le_of_ble_eq_true rfl, Nat.le_of_ble_eq_true rfl⟩ dX12_init_26 (fun v3 => ?_)
  refine tn_cv [(a, .inr (13, [ts_v 0, .ref v1, .ref v2, .null, .null, ts_v 0, ts_v 0, ts_v 0, .null, .null, .null, .null, ts_v 0, .null, ts_v 0, ts_v 0, ts_v 0, ts_v 0, .null, ts_v 0, ts_v 0])), (v1, .inl (γ.2 0, 146, .inl (fun _ => ts_I 0))), (v2, .inl (γ.2 0, 1168, .inl (fun _ => ts_I 0))), (v3, .inl (γ.2 0, 146, .inl (fun _ => ts_I 0)))] rfl ?_
  refine tn_putF C hin2 0 3 rfl rfl inX12 tyX12 tyX12_ok nmX12 (by decide) q_1961 rfl rfl rfl rfl rfl (by simp) dX12_init_28 ?_
  refine tn_cv [(a, .inr (13, [ts_v 0, .ref v1, .ref v2, .ref v3, .null, ts_v 0, ts_v 0, ts_v 0, .null, .null, .null, .null, ts_v 0, .null, ts_v 0, ts_v 0, ts_v 0, ts_v 0, .null, ts_v 0, ts_v 0])), (v1, .inl (γ.2 0, 146, .inl (fun _ => ts_I 0))), (v2, .inl (γ.2 0, 1168, .inl (fun _ => ts_I 0))), (v3, .inl (γ.2 0, 146, .inl (fun _ => ts_I 0)))] rfl ?_
  refine tn_aload_n C dX12_init_31 rfl 0 rfl ?_
  refine tn_sipush C dX12_init_32 146 tsp_146 ?_
  refine tn_newa_int C 146 tw_146 (by decide) q_213 ⟨Nat.le_of_ble_eq_true rfl, Nat.le_of_ble_eq_true rfl⟩ dX12_init_35 (fun v4 => ?_)
  refine tn_cv [(a, .inr (13, [ts_v 0, .ref v1, .ref v2, .ref v3, .null, ts_v 0, ts_v 0, ts_v 0, .null, .null, .null, .null, ts_v 0, .null, ts_v 0, ts_v 0, ts_v 0, ts_v 0, .null, ts_v 0, ts_v 0])), (v1, .inl (γ.2 0, 146, .inl (fun _ => ts_I 0))), (v2, .inl (γ.2 0, 1168, .inl (fun _ => ts_I 0))), (v3, .inl (γ.2 0, 146, .inl (fun _ => ts_I 0))), (v4, .inl (γ.2 0, 146, .inl (fun _ => ts_I 0)))] rfl ?_
  refine tn_putF C hin2 0 4 rfl rfl inX12 tyX12 tyX12_ok nmX12 (by decide) q_1962 rfl rfl rfl rfl rfl (by simp) dX12_init_37 ?_
  refine tn_cv [(a, .inr (13, [ts_v 0, .ref v1, .ref v2, .ref v3, .ref v4, ts_v 0, ts_v 0, ts_v 0, .null, .null, .null, .null, ts_v 0, .null, ts_v 0, ts_v 0, ts_v 0, ts_v 0, .null, ts_v 0, ts_v 0])), (v1, .inl (γ.2 0, 146, .inl (fun _ => ts_I 0))), (v2, .inl (γ.2 0, 1168, .inl (fun _ => ts_I 0))), (v3, .inl (γ.2 0, 146, .inl (fun _ => ts_I 0))), (v4, .inl (γ.2 0, 146, .inl (fun _ => ts_I 0)))] rfl ?_
  refine tn_aload_n C dX12_init_40 rfl 0 rfl ?_
  refine tn_bipush C dX12_init_41 64 tb_64 ?_
  refine tn_newa_int C 64 tw_64 (by decide) q_213 ⟨Nat.le_of_ble_eq_true rfl, Nat.le_of_ble_eq_true rfl⟩ dX12_init_43 (fun v5 => ?_)
  refine tn_cv [(a, .inr (13, [ts_v 0, .ref v1, .ref v2, .ref v3, .ref v4, ts_v 0, ts_v 0, ts_v 0, .null, .null, .null, .null, ts_v 0, .null, ts_v 0, ts_v 0, ts_v 0, ts_v 0, .null, ts_v 0, ts_v 0])), (v1, .inl (γ.2 0, 146, .inl (fun _ => ts_I 0))), (v2, .inl (γ.2 0, 1168, .inl (fun _ => ts_I 0))), (v3, .inl (γ.2 0, 146, .inl (fun _ => ts_I 0))), (v4, .inl (γ.2 0, 146, .inl (fun _ => ts_I 0))), (v5, .inl (γ.2 0, 64, .inl (fun _ => ts_I 0)))] rfl ?_
  refine tn_putF C hin2 0 8 rfl rfl inX12 tyX12 tyX12_ok nmX12 (by decide) q_1966 rfl rfl rfl rfl rfl (by simp) dX12_init_45 ?_
  refine tn_cv [(a, .inr (13, [ts_v 0, .ref v1, .ref v2, .ref v3, .ref v4, ts_v 0, ts_v 0, ts_v 0, .ref v5, .null, .null, .null, ts_v 0, .null, ts_v 0, ts_v 0, ts_v 0, ts_v 0, .null, ts_v 0, ts_v 0])), (v1, .inl (γ.2 0, 146, .inl (fun _ => ts_I 0))), (v2, .inl (γ.2 0, 1168, .inl (fun _ => ts_I 0))), (v3, .inl (γ.2 0, 146, .inl (fun _ => ts_I 0))), (v4, .inl (γ.2 0, 146, .inl (fun _ => ts_I 0))), (v5, .inl (γ.2 0, 64, .inl (fun _ => ts_I 0)))] rfl ?_
  refine tn_aload_n C dX12_init_48 rfl 0 rfl ?_
  refine tn_bipush C dX12_init_49 64 tb_64 ?_
  refine tn_newa_int C 64 tw_64 (by decide) q_213 ⟨Nat.le_of_ble_eq_true rfl, Nat.le_of_ble_eq_true rfl⟩ dX12_init_51 (fun v6 => ?_)
  refine tn_cv [(a, .inr (13, [ts_v 0, .ref v1, .ref v2, .ref v3, .ref v4, ts_v 0, ts_v 0, ts_v 0, .ref v5, .null, .null, .null, ts_v 0, .null, ts_v 0, ts_v 0, ts_v 0, ts_v 0, .null, ts_v 0, ts_v 0])), (v1, .inl (γ.2 0, 146, .inl (fun _ => ts_I 0))), (v2, .inl (γ.2 0, 1168, .inl (fun _ => ts_I 0))), (v3, .inl (γ.2 0, 146, .inl (fun _ => ts_I 0))), (v4, .inl (γ.2 0, 146, .inl (fun _ => ts_I 0))), (v5, .inl (γ.2 0, 64, .inl (fun _ => ts_I 0))), (v6, .inl (γ.2 0, 64, .inl (fun _ => ts_I 0)))] rfl ?_
  refine tn_putF C hin2 0 9 rfl rfl inX12 tyX12 tyX12_ok nmX12 (by decide) q_1967 rfl rfl rfl rfl rfl (by simp) dX12_init_53 ?_
  refine tn_cv [(a, .inr (13, [ts_v 0, .ref v1, .ref v2, .ref v3, .ref v4, ts_v 0, ts_v 0, ts_v 0, .ref v5, .ref v6, .null, .null, ts_v 0, .null, ts_v 0, ts_v 0, ts_v 0, ts_v 0, .null, ts_v 0, ts_v 0])), (v1, .inl (γ.2 0, 146, .inl (fun _ => ts_I 0))), (v2, .inl (γ.2 0, 1168, .inl (fun _ => ts_I 0))), (v3, .inl (γ.2 0, 146, .inl (fun _ => ts_I 0))), (v4, .inl (γ.2 0, 146, .inl (fun _ => ts_I 0))), (v5, .inl (γ.2 0, 64, .inl (fun _ => ts_I 0))), (v6, .inl (γ.2 0, 64, .inl (fun _ => ts_I 0)))] rfl ?_
  refine tn_aload_n C dX12_init_56 rfl 0 rfl ?_
  refine tn_bipush C dX12_init_57 64 tb_64 ?_
  refine tn_newa_int C 64 tw_64 (by decide) q_213 ⟨Nat.le_of_ble_eq_true rfl, Nat.le_of_ble_eq_true rfl⟩ dX12_init_59 (fun v7 => ?_)
  refine tn_cv [(a, .inr (13, [ts_v 0, .ref v1, .ref v2, .ref v3, .ref v4, ts_v 0, ts_v 0, ts_v 0, .ref v5, .ref v6, .null, .null, ts_v 0, .null, ts_v 0, ts_v 0, ts_v 0, ts_v 0, .null, ts_v 0, ts_v 0])), (v1, .inl (γ.2 0, 146, .inl (fun _ => ts_I 0))), (v2, .inl (γ.2 0, 1168, .inl (fun _ => ts_I 0))), (v3, .inl (γ.2 0, 146, .inl (fun _ => ts_I 0))), (v4, .inl (γ.2 0, 146, .inl (fun _ => ts_I 0))), (v5, .inl (γ.2 0, 64, .inl (fun _ => ts_I 0))), (v6, .inl (γ.2 0, 64, .inl (fun _ => ts_I 0))), (v7, .inl (γ.2 0, 64, .inl (fun _ => ts_I 0)))] rfl ?_
  refine tn_putF C hin2 0 10 rfl rfl inX12 tyX12 tyX12_ok nmX12 (by decide) q_1968 rfl rfl rfl rfl rfl (by simp) dX12_init_61 ?_
  refine tn_cv [(a, .inr (13, [ts_v 0, .ref v1, .ref v2, .ref v3, .ref v4, ts_v 0, ts_v 0, ts_v 0, .ref v5, .ref v6, .ref v7, .null, ts_v 0, .null, ts_v 0, ts_v 0, ts_v 0, ts_v 0, .null, ts_v 0, ts_v 0])), (v1, .inl (γ.2 0, 146, .inl (fun _ => ts_I 0))), (v2, .inl (γ.2 0, 1168, .inl (fun _ => ts_I 0))), (v3, .inl (γ.2 0, 146, .inl (fun _ => ts_I 0))), (v4, .inl (γ.2 0, 146, .inl (fun _ => ts_I 0))), (v5, .inl (γ.2 0, 64, .inl (fun _ => ts_I 0))), (v6, .inl (γ.2 0, 64, .inl (fun _ => ts_I 0))), (v7, .inl (γ.2 0, 64, .inl (fun _ => ts_I 0)))] rfl ?_
  refine tn_aload_n C dX12_init_64 rfl 0 rfl ?_
  refine tn_bipush C dX12_init_65 80 tb_80 ?_
  refine tn_newa_char C 80 tw_80 (by decide) q_394 ⟨Nat.le_of_ble_eq_true rfl, Nat.le_of_ble_eq_true rfl⟩ dX12_init_67 (fun v8 => ?_)
  refine tn_cv [(a, .inr (13, [ts_v 0, .ref v1, .ref v2, .ref v3, .ref v4, ts_v 0, ts_v 0, ts_v 0, .ref v5, .ref v6, .ref v7, .null, ts_v 0, .null, ts_v 0, ts_v 0, ts_v 0, ts_v 0, .null, ts_v 0, ts_v 0])), (v1, .inl (γ.2 0, 146, .inl (fun _ => ts_I 0))), (v2, .inl (γ.2 0, 1168, .inl (fun _ => ts_I 0))), (v3, .inl (γ.2 0, 146, .inl (fun _ => ts_I 0))), (v4, .inl (γ.2 0, 146, .inl (fun _ => ts_I 0))), (v5, .inl (γ.2 0, 64, .inl (fun _ => ts_I 0))), (v6, .inl (γ.2 0, 64, .inl (fun _ => ts_I 0))), (v7, .inl (γ.2 0, 64, .inl (fun _ => ts_I 0))), (v8, .inl (γ.2 2, 80, .inl (fun _ => ts_I 0)))] rfl ?_
  refine tn_putF C hin2 0 11 rfl rfl inX12 tyX12 tyX12_ok nmX12 (by decide) q_1969 rfl rfl rfl rfl rfl (by simp) dX12_init_69 ?_
  refine tn_cv [(a, .inr (13, [ts_v 0, .ref v1, .ref v2, .ref v3, .ref v4, ts_v 0, ts_v 0, ts_v 0, .ref v5, .ref v6, .ref v7, .ref v8, ts_v 0, .null, ts_v 0, ts_v 0, ts_v 0, ts_v 0, .null, ts_v 0, ts_v 0])), (v1, .inl (γ.2 0, 146, .inl (fun _ => ts_I 0))), (v2, .inl (γ.2 0, 1168, .inl (fun _ => ts_I 0))), (v3, .inl (γ.2 0, 146, .inl (fun _ => ts_I 0))), (v4, .inl (γ.2 0, 146, .inl (fun _ => ts_I 0))), (v5, .inl (γ.2 0, 64, .inl (fun _ => ts_I 0))), (v6, .inl (γ.2 0, 64, .inl (fun _ => ts_I 0))), (v7, .inl (γ.2 0, 64, .inl (fun _ => ts_I 0))), (v8, .inl (γ.2 2, 80, .inl (fun _ => ts_I 0)))] rfl ?_
  refine tn_aload_n C dX12_init_72 rfl 0 rfl ?_
  refine tn_bipush C dX12_init_73 60 tb_60 ?_
  refine tn_newa_char C 60 tw_60 (by decide) q_394 ⟨Nat.le_of_ble_eq_true rfl, Nat.le_of_ble_eq_true rfl⟩ dX12_init_75 (fun v9 => ?_)
  refine tn_cv [(a, .inr (13, [ts_v 0, .ref v1, .ref v2, .ref v3, .ref v4, ts_v 0, ts_v 0, ts_v 0, .ref v5, .ref v6, .ref v7, .ref v8, ts_v 0, .null, ts_v 0, ts_v 0, ts_v 0, ts_v 0, .null, ts_v 0, ts_v 0])), (v1, .inl (γ.2 0, 146, .inl (fun _ => ts_I 0))), (v2, .inl (γ.2 0, 1168, .inl (fun _ => ts_I 0))), (v3, .inl (γ.2 0, 146, .inl (fun _ => ts_I 0))), (v4, .inl (γ.2 0, 146, .inl (fun _ => ts_I 0))), (v5, .inl (γ.2 0, 64, .inl (fun _ => ts_I 0))), (v6, .inl (γ.2 0, 64, .inl (fun _ => ts_I 0))), (v7, .inl (γ.2 0, 64, .inl (fun _ => ts_I 0))), (v8, .inl (γ.2 2, 80, .inl (fun _ => ts_I 0))), (v9, .inl (γ.2 2, 60, .inl (fun _ => ts_I 0)))] rfl ?_
  refine tn_putF C hin2 0 13 rfl rfl inX12 tyX12 tyX12_ok nmX12 (by decide) q_1971 rfl rfl rfl rfl rfl (by simp) dX12_init_77 ?_
  refine tn_cv [(a, .inr (13, [ts_v 0, .ref v1, .ref v2, .ref v3, .ref v4, ts_v 0, ts_v 0, ts_v 0, .ref v5, .ref v6, .ref v7, .ref v8, ts_v 0, .ref v9, ts_v 0, ts_v 0, ts_v 0, ts_v 0, .null, ts_v 0, ts_v 0])), (v1, .inl (γ.2 0, 146, .inl (fun _ => ts_I 0))), (v2, .inl (γ.2 0, 1168, .inl (fun _ => ts_I 0))), (v3, .inl (γ.2 0, 146, .inl (fun _ => ts_I 0))), (v4, .inl (γ.2 0, 146, .inl (fun _ => ts_I 0))), (v5, .inl (γ.2 0, 64, .inl (fun _ => ts_I 0))), (v6, .inl (γ.2 0, 64, .inl (fun _ => ts_I 0))), (v7, .inl (γ.2 0, 64, .inl (fun _ => ts_I 0))), (v8, .inl (γ.2 2, 80, .inl (fun _ => ts_I 0))), (v9, .inl (γ.2 2, 60, .inl (fun _ => ts_I 0)))] rfl ?_
  refine tn_aload_n C dX12_init_80 rfl 0 rfl ?_
  refine tn_iconst C dX12_init_81 (-1) rfl ?_
  refine tn_put C 0 16 rfl rfl inX12 tyX12 tyX12_ok nmX12 (by decide) q_1974 rfl rfl rfl rfl (by simp) dX12_init_82 ?_
  refine tn_cv [(a, .inr (13, [ts_v 0, .ref v1, .ref v2, .ref v3, .ref v4, ts_v 0, ts_v 0, ts_v 0, .ref v5, .ref v6, .ref v7, .ref v8, ts_v 0, .ref v9, ts_v 0, ts_v 0, ts_v (-1), ts_v 0, .null, ts_v 0, ts_v 0])), (v1, .inl (γ.2 0, 146, .inl (fun _ => ts_I 0))), (v2, .inl (γ.2 0, 1168, .inl (fun _ => ts_I 0))), (v3, .inl (γ.2 0, 146, .inl (fun _ => ts_I 0))), (v4, .inl (γ.2 0, 146, .inl (fun _ => ts_I 0))), (v5, .inl (γ.2 0, 64, .inl (fun _ => ts_I 0))), (v6, .inl (γ.2 0, 64, .inl (fun _ => ts_I 0))), (v7, .inl (γ.2 0, 64, .inl (fun _ => ts_I 0))), (v8, .inl (γ.2 2, 80, .inl (fun _ => ts_I 0))), (v9, .inl (γ.2 2, 60, .inl (fun _ => ts_I 0)))] rfl ?_
  refine tn_aload_n C dX12_init_85 rfl 0 rfl ?_
  refine tn_iconst C dX12_init_86 (-1) rfl ?_
  refine tn_put C 0 17 rfl rfl inX12 tyX12 tyX12_ok nmX12 (by decide) q_1975 rfl rfl rfl rfl (by simp) dX12_init_87 ?_
  refine tn_cv [(a, .inr (13, [ts_v 0, .ref v1, .ref v2, .ref v3, .ref v4, ts_v 0, ts_v 0, ts_v 0, .ref v5, .ref v6, .ref v7, .ref v8, ts_v 0, .ref v9, ts_v 0, ts_v 0, ts_v (-1), ts_v (-1), .null, ts_v 0, ts_v 0])), (v1, .inl (γ.2 0, 146, .inl (fun _ => ts_I 0))), (v2, .inl (γ.2 0, 1168, .inl (fun _ => ts_I 0))), (v3, .inl (γ.2 0, 146, .inl (fun _ => ts_I 0))), (v4, .inl (γ.2 0, 146, .inl (fun _ => ts_I 0))), (v5, .inl (γ.2 0, 64, .inl (fun _ => ts_I 0))), (v6, .inl (γ.2 0, 64, .inl (fun _ => ts_I 0))), (v7, .inl (γ.2 0, 64, .inl (fun _ => ts_I 0))), (v8, .inl (γ.2 2, 80, .inl (fun _ => ts_I 0))), (v9, .inl (γ.2 2, 60, .inl (fun _ => ts_I 0)))] rfl ?_
  refine tn_aload_n C dX12_init_90 rfl 0 rfl ?_
  refine tn_iconst C dX12_init_91 3 rfl ?_
  refine tn_newa_int C 3 tw_3 (by decide) q_213 ⟨Nat.le_of_ble_eq_true rfl, Nat.le_of_ble_eq_true rfl⟩ dX12_init_92 (fun v10 => ?_)
  refine tn_cv [(a, .inr (13, [ts_v 0, .ref v1, .ref v2, .ref v3, .ref v4, ts_v 0, ts_v 0, ts_v 0, .ref v5, .ref v6, .ref v7, .ref v8, ts_v 0, .ref v9, ts_v 0, ts_v 0, ts_v (-1), ts_v (-1), .null, ts_v 0, ts_v 0])), (v1, .inl (γ.2 0, 146, .inl (fun _ => ts_I 0))), (v2, .inl (γ.2 0, 1168, .inl (fun _ => ts_I 0))), (v3, .inl (γ.2 0, 146, .inl (fun _ => ts_I 0))), (v4, .inl (γ.2 0, 146, .inl (fun _ => ts_I 0))), (v5, .inl (γ.2 0, 64, .inl (fun _ => ts_I 0))), (v6, .inl (γ.2 0, 64, .inl (fun _ => ts_I 0))), (v7, .inl (γ.2 0, 64, .inl (fun _ => ts_I 0))), (v8, .inl (γ.2 2, 80, .inl (fun _ => ts_I 0))), (v9, .inl (γ.2 2, 60, .inl (fun _ => ts_I 0))), (v10, .inl (γ.2 0, 3, .inl (fun _ => ts_I 0)))] rfl ?_
  refine tn_putF C hin2 0 18 rfl rfl inX12 tyX12 tyX12_ok nmX12 (by decide) q_1976 rfl rfl rfl rfl rfl (by simp) dX12_init_94 ?_
  refine tn_cv [(a, .inr (13, [ts_v 0, .ref v1, .ref v2, .ref v3, .ref v4, ts_v 0, ts_v 0, ts_v 0, .ref v5, .ref v6, .ref v7, .ref v8, ts_v 0, .ref v9, ts_v 0, ts_v 0, ts_v (-1), ts_v (-1), .ref v10, ts_v 0, ts_v 0])), (v1, .inl (γ.2 0, 146, .inl (fun _ => ts_I 0))), (v2, .inl (γ.2 0, 1168, .inl (fun _ => ts_I 0))), (v3, .inl (γ.2 0, 146, .inl (fun _ => ts_I 0))), (v4, .inl (γ.2 0, 146, .inl (fun _ => ts_I 0))), (v5, .inl (γ.2 0, 64, .inl (fun _ => ts_I 0))), (v6, .inl (γ.2 0, 64, .inl (fun _ => ts_I 0))), (v7, .inl (γ.2 0, 64, .inl (fun _ => ts_I 0))), (v8, .inl (γ.2 2, 80, .inl (fun _ => ts_I 0))), (v9, .inl (γ.2 2, 60, .inl (fun _ => ts_I 0))), (v10, .inl (γ.2 0, 3, .inl (fun _ => ts_I 0)))] rfl ?_
  exact tn_ret C (Nat.le_of_ble_eq_true rfl) (Nat.le_of_ble_eq_true rfl) dX12_init_97 ⟨v1, v2, v3, v4, v5, v6, v7, v8, v9, v10, rfl⟩
theorem kcX12 : ts_Yc yX12_init cX12_init 1 0 := ⟨q_1955, q_132, q_1956, by decide +kernel, by decide +kernel, rfl⟩
set_option maxRecDepth 100000 in
set_option maxHeartbeats 4000000 in
theorem nX9_init {l : Launch} {γ : ts_γ} (a : Nat) : ts_ConN l γ yX9_init cX9_init 1 2 13 153 a [] (.inr (10, [.null, .null, .null, .null, .null, ts_v 0, ts_v 0, ts_v 0, ts_v 0])) (fun w => ∃ v1 v1_v1 v1_v2 v1_v3 v1_v4 v2 v2_v1 v2_v2 v3 v3_v1 v4 v4_v1 v5 : Nat, w = [(a, .inr (10, [.ref v1, .ref v2, .ref v3, .ref v4, .ref v5, ts_v 0, ts_v 0, ts_v 0, ts_v 0])), (v1, .inr (9, [.ref v1_v1, .ref v1_v2, .ref v1_v3, .ref v1_v4, ts_v 0, ts_v 0, ts_v 0, ts_v 0])), (v1_v1, .inl (γ.2 0, 8, .inl (fun _ => ts_I 0))), (v1_v2, .inl (γ.2 0, 8, .inl (fun _ => ts_I 0))), (v1_v3, .inl (γ.2 0, 8, .inl (fun _ => ts_I 0))), (v1_v4, .inl (γ.2 0, 8, .inl (fun _ => ts_I 0))), (v2, .inr (6, [.ref v2_v1, .ref v2_v2, ts_v 0, ts_v 0])), (v2_v1, .inl (γ.2 0, 6, .inl (fun _ => ts_I 0))), (v2_v2, .inl (γ.2 0, 6, .inl (fun _ => ts_I 0))), (v3, .inr (11, [.ref v3_v1, ts_v 0, ts_v 0, ts_v 0, ts_v 0])), (v3_v1, .inl (γ.2 0, 5, .inl (fun _ => ts_I 0))), (v4, .inr (4, [.long 0, .ref v4_v1, ts_v 0])), (v4_v1, .inl (γ.2 1, 64, .inr (.inl (fun _ => 0)))), (v5, .inl (γ.2 0, 20, .inl (fun _ => ts_I 0)))]) := by
  refine ts_ConN.of (by decide) rfl (Nat.le_of_ble_eq_true rfl) ?_
  intro sz p e s m args below meth c hin2 C
  refine tn_aload_n C dX9_init_0 rfl 0 rfl ?_
  refine tn_obj C q_171 q_164 q_165o (Nat.le_of_ble_eq_true rfl) ⟨Nat.le_of_ble_eq_true rfl, Nat.le_of_ble_eq_true rfl⟩ dX9_init_1 ?_
  refine tn_aload_n C dX9_init_4 rfl 0 rfl ?_
  refine tn_new C (ci := 9) rfl inX8 tyX8 tyX8_ok (fs := [.null, .null, .null, .null, ts_v 0, ts_v 0, ts_v 0, ts_v 0]) (by intro j hj; match j, hj with | 0, _ => rfl | 1, _ => rfl | 2, _ => rfl | 3, _ => rfl | 4, _ => rfl | 5, _ => rfl | 6, _ => rfl | 7, _ => rfl) q_172 q_173 q_121 ⟨Nat.le_of_ble_eq_true rfl, Nat.le_of_ble_eq_true rfl⟩ dX9_init_5 (fun v1 => ?_)
  refine tn_dup C dX9_init_8 rfl ?_
  refine tn_ctorN C (host := "TeaspoonSalon") (nX8_init v1) kcX8 qn_1 (Nat.le_of_ble_eq_true rfl) ⟨Nat.le_of_ble_eq_true rfl, Nat.le_of_ble_eq_true rfl⟩ ⟨Nat.le_of_ble_eq_true rfl, Nat.le_of_ble_eq_true rfl⟩ dX9_init_9 (fun w1 hw1 => ?_)
  obtain ⟨v1_v1, v1_v2, v1_v3, v1_v4, rfl⟩ := hw1
  refine tn_cv [(a, .inr (10, [.null, .null, .null, .null, .null, ts_v 0, ts_v 0, ts_v 0, ts_v 0])), (v1, .inr (9, [.ref v1_v1, .ref v1_v2, .ref v1_v3, .ref v1_v4, ts_v 0, ts_v 0, ts_v 0, ts_v 0])), (v1_v1, .inl (γ.2 0, 8, .inl (fun _ => ts_I 0))), (v1_v2, .inl (γ.2 0, 8, .inl (fun _ => ts_I 0))), (v1_v3, .inl (γ.2 0, 8, .inl (fun _ => ts_I 0))), (v1_v4, .inl (γ.2 0, 8, .inl (fun _ => ts_I 0)))] rfl ?_
  refine tn_putF C hin2 0 0 rfl rfl inX9 tyX9 tyX9_ok nmX9 (by decide) q_289 rfl rfl rfl rfl rfl (by simp) dX9_init_12 ?_
  refine tn_cv [(a, .inr (10, [.ref v1, .null, .null, .null, .null, ts_v 0, ts_v 0, ts_v 0, ts_v 0])), (v1, .inr (9, [.ref v1_v1, .ref v1_v2, .ref v1_v3, .ref v1_v4, ts_v 0, ts_v 0, ts_v 0, ts_v 0])), (v1_v1, .inl (γ.2 0, 8, .inl (fun _ => ts_I 0))), (v1_v2, .inl (γ.2 0, 8, .inl (fun _ => ts_I 0))), (v1_v3, .inl (γ.2 0, 8, .inl (fun _ => ts_I 0))), (v1_v4, .inl (γ.2 0, 8, .inl (fun _ => ts_I 0)))] rfl ?_
  refine tn_aload_n C dX9_init_15 rfl 0 rfl ?_
  refine tn_new C (ci := 6) rfl inX4 tyX4 tyX4_ok (fs := [.null, .null, ts_v 0, ts_v 0]) (by intro j hj; match j, hj with | 0, _ => rfl | 1, _ => rfl | 2, _ => rfl | 3, _ => rfl) q_214 q_215 q_122 ⟨Nat.le_of_ble_eq_true rfl, Nat.le_of_ble_eq_true rfl⟩ dX9_init_16 (fun v2 => ?_)
  refine tn_dup C dX9_init_19 rfl ?_
  refine tn_ctorN C (host := "TeaspoonSalon") (nX4_init v2) kcX4 qn_2 (Nat.le_of_ble_eq_true rfl) ⟨Nat.le_of_ble_eq_true rfl, Nat.le_of_ble_eq_true rfl⟩ ⟨Nat.le_of_ble_eq_true rfl, Nat.le_of_ble_eq_true rfl⟩ dX9_init_20 (fun w1 hw1 => ?_)
  obtain ⟨v2_v1, v2_v2, rfl⟩ := hw1
  refine tn_cv [(a, .inr (10, [.ref v1, .null, .null, .null, .null, ts_v 0, ts_v 0, ts_v 0, ts_v 0])), (v1, .inr (9, [.ref v1_v1, .ref v1_v2, .ref v1_v3, .ref v1_v4, ts_v 0, ts_v 0, ts_v 0, ts_v 0])), (v1_v1, .inl (γ.2 0, 8, .inl (fun _ => ts_I 0))), (v1_v2, .inl (γ.2 0, 8, .inl (fun _ => ts_I 0))), (v1_v3, .inl (γ.2 0, 8, .inl (fun _ => ts_I 0))), (v1_v4, .inl (γ.2 0, 8, .inl (fun _ => ts_I 0))), (v2, .inr (6, [.ref v2_v1, .ref v2_v2, ts_v 0, ts_v 0])), (v2_v1, .inl (γ.2 0, 6, .inl (fun _ => ts_I 0))), (v2_v2, .inl (γ.2 0, 6, .inl (fun _ => ts_I 0)))] rfl ?_
  refine tn_putF C hin2 0 1 rfl rfl inX9 tyX9 tyX9_ok nmX9 (by decide) q_292 rfl rfl rfl rfl rfl (by simp) dX9_init_23 ?_
  refine tn_cv [(a, .inr (10, [.ref v1, .ref v2, .null, .null, .null, ts_v 0, ts_v 0, ts_v 0, ts_v 0])), (v1, .inr (9, [.ref v1_v1, .ref v1_v2, .ref v1_v3, .ref v1_v4, ts_v 0, ts_v 0, ts_v 0, ts_v 0])), (v1_v1, .inl (γ.2 0, 8, .inl (fun _ => ts_I 0))), (v1_v2, .inl (γ.2 0, 8, .inl (fun _ => ts_I 0))), (v1_v3, .inl (γ.2 0, 8, .inl (fun _ => ts_I 0))), (v1_v4, .inl (γ.2 0, 8, .inl (fun _ => ts_I 0))), (v2, .inr (6, [.ref v2_v1, .ref v2_v2, ts_v 0, ts_v 0])), (v2_v1, .inl (γ.2 0, 6, .inl (fun _ => ts_I 0))), (v2_v2, .inl (γ.2 0, 6, .inl (fun _ => ts_I 0)))] rfl ?_
  refine tn_aload_n C dX9_init_26 rfl 0 rfl ?_
  refine tn_new C (ci := 11) rfl inX10 tyX10 tyX10_ok (fs := [.null, ts_v 0, ts_v 0, ts_v 0, ts_v 0]) (by intro j hj; match j, hj with | 0, _ => rfl | 1, _ => rfl | 2, _ => rfl | 3, _ => rfl | 4, _ => rfl) q_240 q_241 q_123 ⟨Nat.le_of_ble_eq_true rfl, Nat.le_of_ble_eq_true rfl⟩ dX9_init_27 (fun v3 => ?_)
  refine tn_dup C dX9_init_30 rfl ?_
  refine tn_ctorN C (host := "TeaspoonSalon") (nX10_init v3) kcX10 qn_3 (Nat.le_of_ble_eq_true rfl) ⟨Nat.le_of_ble_eq_true rfl, Nat.le_of_ble_eq_true rfl⟩ ⟨Nat.le_of_ble_eq_true rfl, Nat.le_of_ble_eq_true rfl⟩ dX9_init_31 (fun w1 hw1 => ?_)
  obtain ⟨v3_v1, rfl⟩ := hw1
  refine tn_cv [(a, .inr (10, [.ref v1, .ref v2, .null, .null, .null, ts_v 0, ts_v 0, ts_v 0, ts_v 0])), (v1, .inr (9, [.ref v1_v1, .ref v1_v2, .ref v1_v3, .ref v1_v4, ts_v 0, ts_v 0, ts_v 0, ts_v 0])), (v1_v1, .inl (γ.2 0, 8, .inl (fun _ => ts_I 0))), (v1_v2, .inl (γ.2 0, 8, .inl (fun _ => ts_I 0))), (v1_v3, .inl (γ.2 0, 8, .inl (fun _ => ts_I 0))), (v1_v4, .inl (γ.2 0, 8, .inl (fun _ => ts_I 0))), (v2, .inr (6, [.ref v2_v1, .ref v2_v2, ts_v 0, ts_v 0])), (v2_v1, .inl (γ.2 0, 6, .inl (fun _ => ts_I 0))), (v2_v2, .inl (γ.2 0, 6, .inl (fun _ => ts_I 0))), (v3, .inr (11, [.ref v3_v1, ts_v 0, ts_v 0, ts_v 0, ts_v 0])), (v3_v1, .inl (γ.2 0, 5, .inl (fun _ => ts_I 0)))] rfl ?_
  refine tn_putF C hin2 0 2 rfl rfl inX9 tyX9 tyX9_ok nmX9 (by decide) q_295 rfl rfl rfl rfl rfl (by simp) dX9_init_34 ?_
  refine tn_cv [(a, .inr (10, [.ref v1, .ref v2, .ref v3, .null, .null, ts_v 0, ts_v 0, ts_v 0, ts_v 0])), (v1, .inr (9, [.ref v1_v1, .ref v1_v2, .ref v1_v3, .ref v1_v4, ts_v 0, ts_v 0, ts_v 0, ts_v 0])), (v1_v1, .inl (γ.2 0, 8, .inl (fun _ => ts_I 0))), (v1_v2, .inl (γ.2 0, 8, .inl (fun _ => ts_I 0))), (v1_v3, .inl (γ.2 0, 8, .inl (fun _ => ts_I 0))), (v1_v4, .inl (γ.2 0, 8, .inl (fun _ => ts_I 0))), (v2, .inr (6, [.ref v2_v1, .ref v2_v2, ts_v 0, ts_v 0])), (v2_v1, .inl (γ.2 0, 6, .inl (fun _ => ts_I 0))), (v2_v2, .inl (γ.2 0, 6, .inl (fun _ => ts_I 0))), (v3, .inr (11, [.ref v3_v1, ts_v 0, ts_v 0, ts_v 0, ts_v 0])), (v3_v1, .inl (γ.2 0, 5, .inl (fun _ => ts_I 0)))] rfl ?_
  refine tn_aload_n C dX9_init_37 rfl 0 rfl ?_
  refine tn_new C (ci := 4) rfl inX1 tyX1 tyX1_ok (fs := [.long 0, .null, ts_v 0]) (by intro j hj; match j, hj with | 0, _ => rfl | 1, _ => rfl | 2, _ => rfl) q_270 q_271 q_124 ⟨Nat.le_of_ble_eq_true rfl, Nat.le_of_ble_eq_true rfl⟩ dX9_init_38 (fun v4 => ?_)
  refine tn_dup C dX9_init_41 rfl ?_
  refine tn_ctorN C (host := "TeaspoonSalon") (nX1_init v4) kcX1 qn_4 (Nat.le_of_ble_eq_true rfl) ⟨Nat.le_of_ble_eq_true rfl, Nat.le_of_ble_eq_true rfl⟩ ⟨Nat.le_of_ble_eq_true rfl, Nat.le_of_ble_eq_true rfl⟩ dX9_init_42 (fun w1 hw1 => ?_)
  obtain ⟨v4_v1, rfl⟩ := hw1
  refine tn_cv [(a, .inr (10, [.ref v1, .ref v2, .ref v3, .null, .null, ts_v 0, ts_v 0, ts_v 0, ts_v 0])), (v1, .inr (9, [.ref v1_v1, .ref v1_v2, .ref v1_v3, .ref v1_v4, ts_v 0, ts_v 0, ts_v 0, ts_v 0])), (v1_v1, .inl (γ.2 0, 8, .inl (fun _ => ts_I 0))), (v1_v2, .inl (γ.2 0, 8, .inl (fun _ => ts_I 0))), (v1_v3, .inl (γ.2 0, 8, .inl (fun _ => ts_I 0))), (v1_v4, .inl (γ.2 0, 8, .inl (fun _ => ts_I 0))), (v2, .inr (6, [.ref v2_v1, .ref v2_v2, ts_v 0, ts_v 0])), (v2_v1, .inl (γ.2 0, 6, .inl (fun _ => ts_I 0))), (v2_v2, .inl (γ.2 0, 6, .inl (fun _ => ts_I 0))), (v3, .inr (11, [.ref v3_v1, ts_v 0, ts_v 0, ts_v 0, ts_v 0])), (v3_v1, .inl (γ.2 0, 5, .inl (fun _ => ts_I 0))), (v4, .inr (4, [.long 0, .ref v4_v1, ts_v 0])), (v4_v1, .inl (γ.2 1, 64, .inr (.inl (fun _ => 0))))] rfl ?_
  refine tn_putF C hin2 0 3 rfl rfl inX9 tyX9 tyX9_ok nmX9 (by decide) q_297 rfl rfl rfl rfl rfl (by simp) dX9_init_45 ?_
  refine tn_cv [(a, .inr (10, [.ref v1, .ref v2, .ref v3, .ref v4, .null, ts_v 0, ts_v 0, ts_v 0, ts_v 0])), (v1, .inr (9, [.ref v1_v1, .ref v1_v2, .ref v1_v3, .ref v1_v4, ts_v 0, ts_v 0, ts_v 0, ts_v 0])), (v1_v1, .inl (γ.2 0, 8, .inl (fun _ => ts_I 0))), (v1_v2, .inl (γ.2 0, 8, .inl (fun _ => ts_I 0))), (v1_v3, .inl (γ.2 0, 8, .inl (fun _ => ts_I 0))), (v1_v4, .inl (γ.2 0, 8, .inl (fun _ => ts_I 0))), (v2, .inr (6, [.ref v2_v1, .ref v2_v2, ts_v 0, ts_v 0])), (v2_v1, .inl (γ.2 0, 6, .inl (fun _ => ts_I 0))), (v2_v2, .inl (γ.2 0, 6, .inl (fun _ => ts_I 0))), (v3, .inr (11, [.ref v3_v1, ts_v 0, ts_v 0, ts_v 0, ts_v 0])), (v3_v1, .inl (γ.2 0, 5, .inl (fun _ => ts_I 0))), (v4, .inr (4, [.long 0, .ref v4_v1, ts_v 0])), (v4_v1, .inl (γ.2 1, 64, .inr (.inl (fun _ => 0))))] rfl ?_
  refine tn_aload_n C dX9_init_48 rfl 0 rfl ?_
  refine tn_bipush C dX9_init_49 20 tb_20 ?_
  refine tn_newa_int C 20 tw_20 (by decide) q_213 ⟨Nat.le_of_ble_eq_true rfl, Nat.le_of_ble_eq_true rfl⟩ dX9_init_51 (fun v5 => ?_)
  refine tn_cv [(a, .inr (10, [.ref v1, .ref v2, .ref v3, .ref v4, .null, ts_v 0, ts_v 0, ts_v 0, ts_v 0])), (v1, .inr (9, [.ref v1_v1, .ref v1_v2, .ref v1_v3, .ref v1_v4, ts_v 0, ts_v 0, ts_v 0, ts_v 0])), (v1_v1, .inl (γ.2 0, 8, .inl (fun _ => ts_I 0))), (v1_v2, .inl (γ.2 0, 8, .inl (fun _ => ts_I 0))), (v1_v3, .inl (γ.2 0, 8, .inl (fun _ => ts_I 0))), (v1_v4, .inl (γ.2 0, 8, .inl (fun _ => ts_I 0))), (v2, .inr (6, [.ref v2_v1, .ref v2_v2, ts_v 0, ts_v 0])), (v2_v1, .inl (γ.2 0, 6, .inl (fun _ => ts_I 0))), (v2_v2, .inl (γ.2 0, 6, .inl (fun _ => ts_I 0))), (v3, .inr (11, [.ref v3_v1, ts_v 0, ts_v 0, ts_v 0, ts_v 0])), (v3_v1, .inl (γ.2 0, 5, .inl (fun _ => ts_I 0))), (v4, .inr (4, [.long 0, .ref v4_v1, ts_v 0])), (v4_v1, .inl (γ.2 1, 64, .inr (.inl (fun _ => 0)))), (v5, .inl (γ.2 0, 20, .inl (fun _ => ts_I 0)))] rfl ?_
  refine tn_putF C hin2 0 4 rfl rfl inX9 tyX9 tyX9_ok nmX9 (by decide) q_299 rfl rfl rfl rfl rfl (by simp) dX9_init_53 ?_
  refine tn_cv [(a, .inr (10, [.ref v1, .ref v2, .ref v3, .ref v4, .ref v5, ts_v 0, ts_v 0, ts_v 0, ts_v 0])), (v1, .inr (9, [.ref v1_v1, .ref v1_v2, .ref v1_v3, .ref v1_v4, ts_v 0, ts_v 0, ts_v 0, ts_v 0])), (v1_v1, .inl (γ.2 0, 8, .inl (fun _ => ts_I 0))), (v1_v2, .inl (γ.2 0, 8, .inl (fun _ => ts_I 0))), (v1_v3, .inl (γ.2 0, 8, .inl (fun _ => ts_I 0))), (v1_v4, .inl (γ.2 0, 8, .inl (fun _ => ts_I 0))), (v2, .inr (6, [.ref v2_v1, .ref v2_v2, ts_v 0, ts_v 0])), (v2_v1, .inl (γ.2 0, 6, .inl (fun _ => ts_I 0))), (v2_v2, .inl (γ.2 0, 6, .inl (fun _ => ts_I 0))), (v3, .inr (11, [.ref v3_v1, ts_v 0, ts_v 0, ts_v 0, ts_v 0])), (v3_v1, .inl (γ.2 0, 5, .inl (fun _ => ts_I 0))), (v4, .inr (4, [.long 0, .ref v4_v1, ts_v 0])), (v4_v1, .inl (γ.2 1, 64, .inr (.inl (fun _ => 0)))), (v5, .inl (γ.2 0, 20, .inl (fun _ => ts_I 0)))] rfl ?_
  exact tn_ret C (Nat.le_of_ble_eq_true rfl) (Nat.le_of_ble_eq_true rfl) dX9_init_56 ⟨v1, v1_v1, v1_v2, v1_v3, v1_v4, v2, v2_v1, v2_v2, v3, v3_v1, v4, v4_v1, v5, rfl⟩
theorem kcX9 : ts_Yc yX9_init cX9_init 1 0 := ⟨q_169, q_120, q_170, by decide +kernel, by decide +kernel, rfl⟩
