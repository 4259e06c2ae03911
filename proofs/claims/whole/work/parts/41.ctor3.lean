theorem q_163 : Cond.methodLink "TeaspoonSalon" 1 ⟨"java/lang/Object", "<init>", "()V"⟩ ∈ lw_good := ts_gd (List.mem_of_getElem? (i := 163) (by decide +kernel)) (by decide +kernel)
theorem q_166 : Cond.classLink "TeaspoonSalon" 7 "TeaspoonSalon$State" ∈ lw_good := ts_gd (List.mem_of_getElem? (i := 166) (by decide +kernel)) (by decide +kernel)
theorem qn_0 : Cond.methodLinkNest "TeaspoonSalon" 9 ⟨"TeaspoonSalon$State", "<init>", "()V"⟩ "TeaspoonSalon" ∈ ts_nw := List.mem_of_getElem? (i := 0) (by decide +kernel)
theorem q_327 : Cond.classLink "TeaspoonSalon" 22 "TeaspoonSalon$History" ∈ lw_good := ts_gd (List.mem_of_getElem? (i := 327) (by decide +kernel)) (by decide +kernel)
theorem q_328 : Cond.instantiable "TeaspoonSalon$History" 3 ∈ lw_good := ts_gd (List.mem_of_getElem? (i := 328) (by decide +kernel)) (by decide +kernel)
theorem q_329 : Cond.methodLink "TeaspoonSalon" 24 ⟨"TeaspoonSalon$History", "<init>", "()V"⟩ ∈ lw_good := ts_gd (List.mem_of_getElem? (i := 329) (by decide +kernel)) (by decide +kernel)
theorem q_347 : Cond.classLink "TeaspoonSalon" 29 "TeaspoonSalon$Ranking" ∈ lw_good := ts_gd (List.mem_of_getElem? (i := 347) (by decide +kernel)) (by decide +kernel)
theorem q_348 : Cond.instantiable "TeaspoonSalon$Ranking" 3 ∈ lw_good := ts_gd (List.mem_of_getElem? (i := 348) (by decide +kernel)) (by decide +kernel)
theorem qn_6 : Cond.methodLinkNest "TeaspoonSalon" 31 ⟨"TeaspoonSalon$Ranking", "<init>", "()V"⟩ "TeaspoonSalon" ∈ ts_nw := List.mem_of_getElem? (i := 6) (by decide +kernel)
theorem q_363 : Cond.classLink "TeaspoonSalon" 36 "TeaspoonSalon$Script" ∈ lw_good := ts_gd (List.mem_of_getElem? (i := 363) (by decide +kernel)) (by decide +kernel)
theorem q_364 : Cond.instantiable "TeaspoonSalon$Script" 7 ∈ lw_good := ts_gd (List.mem_of_getElem? (i := 364) (by decide +kernel)) (by decide +kernel)
theorem qn_7 : Cond.methodLinkNest "TeaspoonSalon" 38 ⟨"TeaspoonSalon$Script", "<init>", "()V"⟩ "TeaspoonSalon" ∈ ts_nw := List.mem_of_getElem? (i := 7) (by decide +kernel)
theorem q_395 : Cond.classLink "TeaspoonSalon" 43 "java/lang/StringBuilder" ∈ lw_good := ts_gd (List.mem_of_getElem? (i := 395) (by decide +kernel)) (by decide +kernel)
theorem q_396 : Cond.instantiable "java/lang/StringBuilder" 4 ∈ lw_good := ts_gd (List.mem_of_getElem? (i := 396) (by decide +kernel)) (by decide +kernel)
theorem q_397 : Cond.methodLink "TeaspoonSalon" 45 ⟨"java/lang/StringBuilder", "<init>", "()V"⟩ ∈ lw_good := ts_gd (List.mem_of_getElem? (i := 397) (by decide +kernel)) (by decide +kernel)
theorem q_161 : Cond.instanceMethod ⟨"TeaspoonSalon", "<init>", "()V"⟩ ∈ lw_good := ts_gd (List.mem_of_getElem? (i := 161) (by decide +kernel)) (by decide +kernel)
theorem q_162 : Cond.code yX11_init cX11_init 1 none ∈ lw_good := ts_gd (List.mem_of_getElem? (i := 162) (by decide +kernel)) (by decide +kernel)
set_option maxRecDepth 100000 in
set_option maxHeartbeats 4000000 in
theorem nX11_init {l : Launch} {γ : ts_γ} (a : Nat) : ts_ConN l γ yX11_init cX11_init 1 4 165 2031 a [] (.inr (12, [.null, .null, .null, .null, .null, .null, .null, ts_v 0, ts_v 0, ts_v 0])) (fun w => ∃ (ad1 : Nat → Nat) (ad2 : Nat → Nat) (ad3 : Nat → Nat) (v4 : Nat) (ad4 : Nat → Nat → Nat) (u4 : Nat) (u5_1 : Nat) (u5_2 : Nat) (u5 : Nat) (u6_1 : Nat) (u6_2 : Nat) (u6_3 : Nat) (u6 : Nat) (u7_1 : Nat) (u7 : Nat), w = (a, .inr (12, [.ref (ad1 0), .ref (ad2 0), .ref (ad3 0), .ref u4, .ref u5, .ref u6, .ref u7, ts_v 0, ts_v (-1), ts_v (-1)])) :: (((((((ts_SW γ ad1) ++ ts_SW γ ad2) ++ ts_SW γ ad3) ++ ts_HW γ u4 v4 ad4 8) ++ [(u5, .inr (7, [.ref u5_1, .ref u5_2, ts_v 0])), (u5_1, .inl (γ.2 0, 36, .inl (fun _ => ts_I 0))), (u5_2, .inl (γ.2 0, 64, .inl (fun _ => ts_I 0)))]) ++ [(u6, .inr (8, [.ref u6_1, .ref u6_2, .ref u6_3, ts_v 0, ts_v 0, ts_v 0, ts_v 0])), (u6_1, .inl (γ.2 2, 60, .inl (fun _ => ts_I 0))), (u6_2, .inl (γ.2 6, 12, .inr (.inr (.inr (.inr (fun _ => none)))))), (u6_3, .inl (γ.2 0, 36, .inl (fun _ => ts_I 0)))]) ++ [(u7, .inr (1, [.ref u7_1, ts_v 0, ts_v 0, ts_v 0])), (u7_1, .inl (γ.2 3, 16, .inl (fun _ => ts_I 0)))])) := by
  refine ts_ConN.of (by decide) rfl (Nat.le_of_ble_eq_true rfl) ?_
  intro sz p e s m args below meth c hin2 C
  refine tn_aload_n C dX11_init_0 rfl 0 rfl ?_
  refine tn_obj C q_163 q_164 q_165o (Nat.le_of_ble_eq_true rfl) ⟨Nat.le_of_ble_eq_true rfl, Nat.le_of_ble_eq_true rfl⟩ dX11_init_1 ?_
  refine tn_aload_n C dX11_init_4 rfl 0 rfl ?_
  refine tn_new C (ci := 10) rfl inX9 tyX9 tyX9_ok (fs := [.null, .null, .null, .null, .null, ts_v 0, ts_v 0, ts_v 0, ts_v 0]) (by intro j hj; match j, hj with | 0, _ => rfl | 1, _ => rfl | 2, _ => rfl | 3, _ => rfl | 4, _ => rfl | 5, _ => rfl | 6, _ => rfl | 7, _ => rfl | 8, _ => rfl) q_166 q_167 q_120 ⟨Nat.le_of_ble_eq_true rfl, Nat.le_of_ble_eq_true rfl⟩ dX11_init_5 (fun u1 => ?_)
  refine tn_dup C dX11_init_8 rfl ?_
  refine tn_ctorN C (host := "TeaspoonSalon") (nX9_initS u1) kcX9 qn_0 (Nat.le_of_ble_eq_true rfl) ⟨Nat.le_of_ble_eq_true rfl, Nat.le_of_ble_eq_true rfl⟩ ⟨Nat.le_of_ble_eq_true rfl, Nat.le_of_ble_eq_true rfl⟩ dX11_init_9 (fun w1 hw1 => ?_)
  obtain ⟨ad1, h1, rfl⟩ := hw1
  refine tn_cv ((a, .inr (12, [.null, .null, .null, .null, .null, .null, .null, ts_v 0, ts_v 0, ts_v 0])) :: (ts_SW γ ad1)) rfl ?_
  refine tn_putF C hin2 0 0 rfl rfl inX11 tyX11 tyX11_ok nmX11 (by decide) q_428 rfl rfl rfl rfl rfl (by simp) dX11_init_12 ?_
  refine tn_cv ((a, .inr (12, [.ref u1, .null, .null, .null, .null, .null, .null, ts_v 0, ts_v 0, ts_v 0])) :: (ts_SW γ ad1)) rfl ?_
  refine tn_aload_n C dX11_init_15 rfl 0 rfl ?_
  refine tn_new C (ci := 10) rfl inX9 tyX9 tyX9_ok (fs := [.null, .null, .null, .null, .null, ts_v 0, ts_v 0, ts_v 0, ts_v 0]) (by intro j hj; match j, hj with | 0, _ => rfl | 1, _ => rfl | 2, _ => rfl | 3, _ => rfl | 4, _ => rfl | 5, _ => rfl | 6, _ => rfl | 7, _ => rfl | 8, _ => rfl) q_166 q_167 q_120 ⟨Nat.le_of_ble_eq_true rfl, Nat.le_of_ble_eq_true rfl⟩ dX11_init_16 (fun u2 => ?_)
  refine tn_dup C dX11_init_19 rfl ?_
  refine tn_ctorN C (host := "TeaspoonSalon") (nX9_initS u2) kcX9 qn_0 (Nat.le_of_ble_eq_true rfl) ⟨Nat.le_of_ble_eq_true rfl, Nat.le_of_ble_eq_true rfl⟩ ⟨Nat.le_of_ble_eq_true rfl, Nat.le_of_ble_eq_true rfl⟩ dX11_init_20 (fun w1 hw1 => ?_)
  obtain ⟨ad2, h2, rfl⟩ := hw1
  refine tn_cv ((a, .inr (12, [.ref u1, .null, .null, .null, .null, .null, .null, ts_v 0, ts_v 0, ts_v 0])) :: ((ts_SW γ ad1) ++ ts_SW γ ad2)) rfl ?_
  refine tn_putF C hin2 0 1 rfl rfl inX11 tyX11 tyX11_ok nmX11 (by decide) q_429 rfl rfl rfl rfl rfl (by simp) dX11_init_23 ?_
  refine tn_cv ((a, .inr (12, [.ref u1, .ref u2, .null, .null, .null, .null, .null, ts_v 0, ts_v 0, ts_v 0])) :: ((ts_SW γ ad1) ++ ts_SW γ ad2)) rfl ?_
  refine tn_aload_n C dX11_init_26 rfl 0 rfl ?_
  refine tn_new C (ci := 10) rfl inX9 tyX9 tyX9_ok (fs := [.null, .null, .null, .null, .null, ts_v 0, ts_v 0, ts_v 0, ts_v 0]) (by intro j hj; match j, hj with | 0, _ => rfl | 1, _ => rfl | 2, _ => rfl | 3, _ => rfl | 4, _ => rfl | 5, _ => rfl | 6, _ => rfl | 7, _ => rfl | 8, _ => rfl) q_166 q_167 q_120 ⟨Nat.le_of_ble_eq_true rfl, Nat.le_of_ble_eq_true rfl⟩ dX11_init_27 (fun u3 => ?_)
  refine tn_dup C dX11_init_30 rfl ?_
  refine tn_ctorN C (host := "TeaspoonSalon") (nX9_initS u3) kcX9 qn_0 (Nat.le_of_ble_eq_true rfl) ⟨Nat.le_of_ble_eq_true rfl, Nat.le_of_ble_eq_true rfl⟩ ⟨Nat.le_of_ble_eq_true rfl, Nat.le_of_ble_eq_true rfl⟩ dX11_init_31 (fun w1 hw1 => ?_)
  obtain ⟨ad3, h3, rfl⟩ := hw1
  refine tn_cv ((a, .inr (12, [.ref u1, .ref u2, .null, .null, .null, .null, .null, ts_v 0, ts_v 0, ts_v 0])) :: (((ts_SW γ ad1) ++ ts_SW γ ad2) ++ ts_SW γ ad3)) rfl ?_
  refine tn_putF C hin2 0 2 rfl rfl inX11 tyX11 tyX11_ok nmX11 (by decide) q_430 rfl rfl rfl rfl rfl (by simp) dX11_init_34 ?_
  refine tn_cv ((a, .inr (12, [.ref u1, .ref u2, .ref u3, .null, .null, .null, .null, ts_v 0, ts_v 0, ts_v 0])) :: (((ts_SW γ ad1) ++ ts_SW γ ad2) ++ ts_SW γ ad3)) rfl ?_
  refine tn_aload_n C dX11_init_37 rfl 0 rfl ?_
  refine tn_new C (ci := 5) rfl inX3 tyX3 tyX3_ok (fs := [.null, ts_v 0, ts_v 0]) (by intro j hj; match j, hj with | 0, _ => rfl | 1, _ => rfl | 2, _ => rfl) q_327 q_328 q_125 ⟨Nat.le_of_ble_eq_true rfl, Nat.le_of_ble_eq_true rfl⟩ dX11_init_38 (fun u4 => ?_)
  refine tn_dup C dX11_init_41 rfl ?_
  refine tn_ctor C [] (nX3_init u4) kcX3 rfl rfl q_329 (Nat.le_of_ble_eq_true rfl) ⟨Nat.le_of_ble_eq_true rfl, Nat.le_of_ble_eq_true rfl⟩ ⟨Nat.le_of_ble_eq_true rfl, Nat.le_of_ble_eq_true rfl⟩ dX11_init_42 (fun w1 hw1 => ?_)
  obtain ⟨v4, ad4, rfl⟩ := hw1
  refine tn_cv ((a, .inr (12, [.ref u1, .ref u2, .ref u3, .null, .null, .null, .null, ts_v 0, ts_v 0, ts_v 0])) :: ((((ts_SW γ ad1) ++ ts_SW γ ad2) ++ ts_SW γ ad3) ++ ts_HW γ u4 v4 ad4 8)) rfl ?_
  refine tn_putF C hin2 0 3 rfl rfl inX11 tyX11 tyX11_ok nmX11 (by decide) q_431 rfl rfl rfl rfl rfl (by simp) dX11_init_45 ?_
  refine tn_cv ((a, .inr (12, [.ref u1, .ref u2, .ref u3, .ref u4, .null, .null, .null, ts_v 0, ts_v 0, ts_v 0])) :: ((((ts_SW γ ad1) ++ ts_SW γ ad2) ++ ts_SW γ ad3) ++ ts_HW γ u4 v4 ad4 8)) rfl ?_
  refine tn_aload_n C dX11_init_48 rfl 0 rfl ?_
  refine tn_new C (ci := 7) rfl inX5 tyX5 tyX5_ok (fs := [.null, .null, ts_v 0]) (by intro j hj; match j, hj with | 0, _ => rfl | 1, _ => rfl | 2, _ => rfl) q_347 q_348 q_126 ⟨Nat.le_of_ble_eq_true rfl, Nat.le_of_ble_eq_true rfl⟩ dX11_init_49 (fun u5 => ?_)
  refine tn_dup C dX11_init_52 rfl ?_
  refine tn_ctorN C (host := "TeaspoonSalon") (nX5_init u5) kcX5 qn_6 (Nat.le_of_ble_eq_true rfl) ⟨Nat.le_of_ble_eq_true rfl, Nat.le_of_ble_eq_true rfl⟩ ⟨Nat.le_of_ble_eq_true rfl, Nat.le_of_ble_eq_true rfl⟩ dX11_init_53 (fun w1 hw1 => ?_)
  obtain ⟨u5_1, u5_2, rfl⟩ := hw1
  refine tn_cv ((a, .inr (12, [.ref u1, .ref u2, .ref u3, .ref u4, .null, .null, .null, ts_v 0, ts_v 0, ts_v 0])) :: (((((ts_SW γ ad1) ++ ts_SW γ ad2) ++ ts_SW γ ad3) ++ ts_HW γ u4 v4 ad4 8) ++ [(u5, .inr (7, [.ref u5_1, .ref u5_2, ts_v 0])), (u5_1, .inl (γ.2 0, 36, .inl (fun _ => ts_I 0))), (u5_2, .inl (γ.2 0, 64, .inl (fun _ => ts_I 0)))])) rfl ?_
  refine tn_putF C hin2 0 4 rfl rfl inX11 tyX11 tyX11_ok nmX11 (by decide) q_432 rfl rfl rfl rfl rfl (by simp) dX11_init_56 ?_
  refine tn_cv ((a, .inr (12, [.ref u1, .ref u2, .ref u3, .ref u4, .ref u5, .null, .null, ts_v 0, ts_v 0, ts_v 0])) :: (((((ts_SW γ ad1) ++ ts_SW γ ad2) ++ ts_SW γ ad3) ++ ts_HW γ u4 v4 ad4 8) ++ [(u5, .inr (7, [.ref u5_1, .ref u5_2, ts_v 0])), (u5_1, .inl (γ.2 0, 36, .inl (fun _ => ts_I 0))), (u5_2, .inl (γ.2 0, 64, .inl (fun _ => ts_I 0)))])) rfl ?_
  refine tn_aload_n C dX11_init_59 rfl 0 rfl ?_
  refine tn_new C (ci := 8) rfl inX7 tyX7 tyX7_ok (fs := [.null, .null, .null, ts_v 0, ts_v 0, ts_v 0, ts_v 0]) (by intro j hj; match j, hj with | 0, _ => rfl | 1, _ => rfl | 2, _ => rfl | 3, _ => rfl | 4, _ => rfl | 5, _ => rfl | 6, _ => rfl) q_363 q_364 q_127 ⟨Nat.le_of_ble_eq_true rfl, Nat.le_of_ble_eq_true rfl⟩ dX11_init_60 (fun u6 => ?_)
  refine tn_dup C dX11_init_63 rfl ?_
  refine tn_ctorN C (host := "TeaspoonSalon") (nX7_init u6) kcX7 qn_7 (Nat.le_of_ble_eq_true rfl) ⟨Nat.le_of_ble_eq_true rfl, Nat.le_of_ble_eq_true rfl⟩ ⟨Nat.le_of_ble_eq_true rfl, Nat.le_of_ble_eq_true rfl⟩ dX11_init_64 (fun w1 hw1 => ?_)
  obtain ⟨u6_1, u6_2, u6_3, rfl⟩ := hw1
  refine tn_cv ((a, .inr (12, [.ref u1, .ref u2, .ref u3, .ref u4, .ref u5, .null, .null, ts_v 0, ts_v 0, ts_v 0])) :: ((((((ts_SW γ ad1) ++ ts_SW γ ad2) ++ ts_SW γ ad3) ++ ts_HW γ u4 v4 ad4 8) ++ [(u5, .inr (7, [.ref u5_1, .ref u5_2, ts_v 0])), (u5_1, .inl (γ.2 0, 36, .inl (fun _ => ts_I 0))), (u5_2, .inl (γ.2 0, 64, .inl (fun _ => ts_I 0)))]) ++ [(u6, .inr (8, [.ref u6_1, .ref u6_2, .ref u6_3, ts_v 0, ts_v 0, ts_v 0, ts_v 0])), (u6_1, .inl (γ.2 2, 60, .inl (fun _ => ts_I 0))), (u6_2, .inl (γ.2 6, 12, .inr (.inr (.inr (.inr (fun _ => none)))))), (u6_3, .inl (γ.2 0, 36, .inl (fun _ => ts_I 0)))])) rfl ?_
  refine tn_putF C hin2 0 5 rfl rfl inX11 tyX11 tyX11_ok nmX11 (by decide) q_433 rfl rfl rfl rfl rfl (by simp) dX11_init_67 ?_
  refine tn_cv ((a, .inr (12, [.ref u1, .ref u2, .ref u3, .ref u4, .ref u5, .ref u6, .null, ts_v 0, ts_v 0, ts_v 0])) :: ((((((ts_SW γ ad1) ++ ts_SW γ ad2) ++ ts_SW γ ad3) ++ ts_HW γ u4 v4 ad4 8) ++ [(u5, .inr (7, [.ref u5_1, .ref u5_2, ts_v 0])), (u5_1, .inl (γ.2 0, 36, .inl (fun _ => ts_I 0))), (u5_2, .inl (γ.2 0, 64, .inl (fun _ => ts_I 0)))]) ++ [(u6, .inr (8, [.ref u6_1, .ref u6_2, .ref u6_3, ts_v 0, ts_v 0, ts_v 0, ts_v 0])), (u6_1, .inl (γ.2 2, 60, .inl (fun _ => ts_I 0))), (u6_2, .inl (γ.2 6, 12, .inr (.inr (.inr (.inr (fun _ => none)))))), (u6_3, .inl (γ.2 0, 36, .inl (fun _ => ts_I 0)))])) rfl ?_
  refine tn_aload_n C dX11_init_70 rfl 0 rfl ?_
  refine tn_new C (ci := 1) rfl inJ4 tyJ4 tyJ4_ok (fs := [.null, ts_v 0, ts_v 0, ts_v 0]) (by intro j hj; match j, hj with | 0, _ => rfl | 1, _ => rfl | 2, _ => rfl | 3, _ => rfl) q_395 q_396 q_129 ⟨Nat.le_of_ble_eq_true rfl, Nat.le_of_ble_eq_true rfl⟩ dX11_init_71 (fun u7 => ?_)
  refine tn_dup C dX11_init_74 rfl ?_
  refine tn_ctor C [] (nJ4_init u7) kcJ4 rfl rfl q_397 (Nat.le_of_ble_eq_true rfl) ⟨Nat.le_of_ble_eq_true rfl, Nat.le_of_ble_eq_true rfl⟩ ⟨Nat.le_of_ble_eq_true rfl, Nat.le_of_ble_eq_true rfl⟩ dX11_init_75 (fun w1 hw1 => ?_)
  obtain ⟨u7_1, rfl⟩ := hw1
  refine tn_cv ((a, .inr (12, [.ref u1, .ref u2, .ref u3, .ref u4, .ref u5, .ref u6, .null, ts_v 0, ts_v 0, ts_v 0])) :: (((((((ts_SW γ ad1) ++ ts_SW γ ad2) ++ ts_SW γ ad3) ++ ts_HW γ u4 v4 ad4 8) ++ [(u5, .inr (7, [.ref u5_1, .ref u5_2, ts_v 0])), (u5_1, .inl (γ.2 0, 36, .inl (fun _ => ts_I 0))), (u5_2, .inl (γ.2 0, 64, .inl (fun _ => ts_I 0)))]) ++ [(u6, .inr (8, [.ref u6_1, .ref u6_2, .ref u6_3, ts_v 0, ts_v 0, ts_v 0, ts_v 0])), (u6_1, .inl (γ.2 2, 60, .inl (fun _ => ts_I 0))), (u6_2, .inl (γ.2 6, 12, .inr (.inr (.inr (.inr (fun _ => none)))))), (u6_3, .inl (γ.2 0, 36, .inl (fun _ => ts_I 0)))]) ++ [(u7, .inr (1, [.ref u7_1, ts_v 0, ts_v 0, ts_v 0])), (u7_1, .inl (γ.2 3, 16, .inl (fun _ => ts_I 0)))])) rfl ?_
  refine tn_putF C hin2 0 6 rfl rfl inX11 tyX11 tyX11_ok nmX11 (by decide) q_434 rfl rfl rfl rfl rfl (by simp) dX11_init_78 ?_
  refine tn_cv ((a, .inr (12, [.ref u1, .ref u2, .ref u3, .ref u4, .ref u5, .ref u6, .ref u7, ts_v 0, ts_v 0, ts_v 0])) :: (((((((ts_SW γ ad1) ++ ts_SW γ ad2) ++ ts_SW γ ad3) ++ ts_HW γ u4 v4 ad4 8) ++ [(u5, .inr (7, [.ref u5_1, .ref u5_2, ts_v 0])), (u5_1, .inl (γ.2 0, 36, .inl (fun _ => ts_I 0))), (u5_2, .inl (γ.2 0, 64, .inl (fun _ => ts_I 0)))]) ++ [(u6, .inr (8, [.ref u6_1, .ref u6_2, .ref u6_3, ts_v 0, ts_v 0, ts_v 0, ts_v 0])), (u6_1, .inl (γ.2 2, 60, .inl (fun _ => ts_I 0))), (u6_2, .inl (γ.2 6, 12, .inr (.inr (.inr (.inr (fun _ => none)))))), (u6_3, .inl (γ.2 0, 36, .inl (fun _ => ts_I 0)))]) ++ [(u7, .inr (1, [.ref u7_1, ts_v 0, ts_v 0, ts_v 0])), (u7_1, .inl (γ.2 3, 16, .inl (fun _ => ts_I 0)))])) rfl ?_
  refine tn_aload_n C dX11_init_81 rfl 0 rfl ?_
  refine tn_iconst C dX11_init_82 0 rfl ?_
  refine tn_put C 0 7 rfl rfl inX11 tyX11 tyX11_ok nmX11 (by decide) q_435 rfl rfl rfl rfl (by simp) dX11_init_83 ?_
  refine tn_cv ((a, .inr (12, [.ref u1, .ref u2, .ref u3, .ref u4, .ref u5, .ref u6, .ref u7, ts_v 0, ts_v 0, ts_v 0])) :: (((((((ts_SW γ ad1) ++ ts_SW γ ad2) ++ ts_SW γ ad3) ++ ts_HW γ u4 v4 ad4 8) ++ [(u5, .inr (7, [.ref u5_1, .ref u5_2, ts_v 0])), (u5_1, .inl (γ.2 0, 36, .inl (fun _ => ts_I 0))), (u5_2, .inl (γ.2 0, 64, .inl (fun _ => ts_I 0)))]) ++ [(u6, .inr (8, [.ref u6_1, .ref u6_2, .ref u6_3, ts_v 0, ts_v 0, ts_v 0, ts_v 0])), (u6_1, .inl (γ.2 2, 60, .inl (fun _ => ts_I 0))), (u6_2, .inl (γ.2 6, 12, .inr (.inr (.inr (.inr (fun _ => none)))))), (u6_3, .inl (γ.2 0, 36, .inl (fun _ => ts_I 0)))]) ++ [(u7, .inr (1, [.ref u7_1, ts_v 0, ts_v 0, ts_v 0])), (u7_1, .inl (γ.2 3, 16, .inl (fun _ => ts_I 0)))])) rfl ?_
  refine tn_aload_n C dX11_init_86 rfl 0 rfl ?_
  refine tn_iconst C dX11_init_87 (-1) rfl ?_
  refine tn_put C 0 8 rfl rfl inX11 tyX11 tyX11_ok nmX11 (by decide) q_436 rfl rfl rfl rfl (by simp) dX11_init_88 ?_
  refine tn_cv ((a, .inr (12, [.ref u1, .ref u2, .ref u3, .ref u4, .ref u5, .ref u6, .ref u7, ts_v 0, ts_v (-1), ts_v 0])) :: (((((((ts_SW γ ad1) ++ ts_SW γ ad2) ++ ts_SW γ ad3) ++ ts_HW γ u4 v4 ad4 8) ++ [(u5, .inr (7, [.ref u5_1, .ref u5_2, ts_v 0])), (u5_1, .inl (γ.2 0, 36, .inl (fun _ => ts_I 0))), (u5_2, .inl (γ.2 0, 64, .inl (fun _ => ts_I 0)))]) ++ [(u6, .inr (8, [.ref u6_1, .ref u6_2, .ref u6_3, ts_v 0, ts_v 0, ts_v 0, ts_v 0])), (u6_1, .inl (γ.2 2, 60, .inl (fun _ => ts_I 0))), (u6_2, .inl (γ.2 6, 12, .inr (.inr (.inr (.inr (fun _ => none)))))), (u6_3, .inl (γ.2 0, 36, .inl (fun _ => ts_I 0)))]) ++ [(u7, .inr (1, [.ref u7_1, ts_v 0, ts_v 0, ts_v 0])), (u7_1, .inl (γ.2 3, 16, .inl (fun _ => ts_I 0)))])) rfl ?_
  refine tn_aload_n C dX11_init_91 rfl 0 rfl ?_
  refine tn_iconst C dX11_init_92 (-1) rfl ?_
  refine tn_put C 0 9 rfl rfl inX11 tyX11 tyX11_ok nmX11 (by decide) q_437 rfl rfl rfl rfl (by simp) dX11_init_93 ?_
  refine tn_cv ((a, .inr (12, [.ref u1, .ref u2, .ref u3, .ref u4, .ref u5, .ref u6, .ref u7, ts_v 0, ts_v (-1), ts_v (-1)])) :: (((((((ts_SW γ ad1) ++ ts_SW γ ad2) ++ ts_SW γ ad3) ++ ts_HW γ u4 v4 ad4 8) ++ [(u5, .inr (7, [.ref u5_1, .ref u5_2, ts_v 0])), (u5_1, .inl (γ.2 0, 36, .inl (fun _ => ts_I 0))), (u5_2, .inl (γ.2 0, 64, .inl (fun _ => ts_I 0)))]) ++ [(u6, .inr (8, [.ref u6_1, .ref u6_2, .ref u6_3, ts_v 0, ts_v 0, ts_v 0, ts_v 0])), (u6_1, .inl (γ.2 2, 60, .inl (fun _ => ts_I 0))), (u6_2, .inl (γ.2 6, 12, .inr (.inr (.inr (.inr (fun _ => none)))))), (u6_3, .inl (γ.2 0, 36, .inl (fun _ => ts_I 0)))]) ++ [(u7, .inr (1, [.ref u7_1, ts_v 0, ts_v 0, ts_v 0])), (u7_1, .inl (γ.2 3, 16, .inl (fun _ => ts_I 0)))])) rfl ?_
  subst h1; subst h2; subst h3
  exact tn_ret C (Nat.le_of_ble_eq_true rfl) (Nat.le_of_ble_eq_true rfl) dX11_init_96 ⟨ad1, ad2, ad3, v4, ad4, u4, u5_1, u5_2, u5, u6_1, u6_2, u6_3, u6, u7_1, u7, rfl⟩
theorem kcX11 : ts_Yc yX11_init cX11_init 1 0 := ⟨q_161, q_119, q_162, by decide +kernel, by decide +kernel, rfl⟩
