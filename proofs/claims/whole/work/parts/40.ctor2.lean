theorem q_403 : Cond.methodLink "java/lang/AbstractStringBuilder" 3 ⟨"java/lang/Object", "<init>", "()V"⟩ ∈ lw_good := ts_gd (List.mem_of_getElem? (i := 403) (by decide +kernel)) (by decide +kernel)
theorem q_427 : Cond.arrayClass .byte ∈ lw_good := ts_gd (List.mem_of_getElem? (i := 427) (by decide +kernel)) (by decide +kernel)
theorem q_401 : Cond.instanceMethod ⟨"java/lang/AbstractStringBuilder", "<init>", "(I)V"⟩ ∈ lw_good := ts_gd (List.mem_of_getElem? (i := 401) (by decide +kernel)) (by decide +kernel)
theorem q_402 : Cond.code yJ5_init_d00df cJ5_init_d00df 2 none ∈ lw_good := ts_gd (List.mem_of_getElem? (i := 402) (by decide +kernel)) (by decide +kernel)
theorem q_400 : Cond.methodLink "java/lang/StringBuilder" 1 ⟨"java/lang/AbstractStringBuilder", "<init>", "(I)V"⟩ ∈ lw_good := ts_gd (List.mem_of_getElem? (i := 400) (by decide +kernel)) (by decide +kernel)
theorem q_398 : Cond.instanceMethod ⟨"java/lang/StringBuilder", "<init>", "()V"⟩ ∈ lw_good := ts_gd (List.mem_of_getElem? (i := 398) (by decide +kernel)) (by decide +kernel)
theorem q_399 : Cond.code yJ4_init_da8c8 cJ4_init_da8c8 1 none ∈ lw_good := ts_gd (List.mem_of_getElem? (i := 399) (by decide +kernel)) (by decide +kernel)
theorem q_333 : Cond.classLink "TeaspoonSalon$History" 9 "TeaspoonSalon$State" ∈ lw_good := ts_gd (List.mem_of_getElem? (i := 333) (by decide +kernel)) (by decide +kernel)
theorem q_167 : Cond.instantiable "TeaspoonSalon$State" 9 ∈ lw_good := ts_gd (List.mem_of_getElem? (i := 167) (by decide +kernel)) (by decide +kernel)
theorem qn_5 : Cond.methodLinkNest "TeaspoonSalon$History" 15 ⟨"TeaspoonSalon$State", "<init>", "()V"⟩ "TeaspoonSalon" ∈ ts_nw := List.mem_of_getElem? (i := 5) (by decide +kernel)
theorem q_332 : Cond.methodLink "TeaspoonSalon$History" 1 ⟨"java/lang/Object", "<init>", "()V"⟩ ∈ lw_good := ts_gd (List.mem_of_getElem? (i := 332) (by decide +kernel)) (by decide +kernel)
theorem q_330 : Cond.instanceMethod ⟨"TeaspoonSalon$History", "<init>", "()V"⟩ ∈ lw_good := ts_gd (List.mem_of_getElem? (i := 330) (by decide +kernel)) (by decide +kernel)
theorem q_331 : Cond.code yX3_init cX3_init 2 none ∈ lw_good := ts_gd (List.mem_of_getElem? (i := 331) (by decide +kernel)) (by decide +kernel)
theorem nJ5_init {l : Launch} {γ : ts_γ} (a : Nat) : ts_ConN l γ yJ5_init_d00df cJ5_init_d00df 2 1 1 16 a [ts_v 16] (.inr (1, [.null, ts_v 0, ts_v 0, ts_v 0])) (fun w => ∃ v1 : Nat, w = [(a, .inr (1, [.ref v1, ts_v 0, ts_v 0, ts_v 0])), (v1, .inl (γ.2 3, 16, .inl (fun _ => ts_I 0)))]) := by
  refine ts_ConN.of (by decide) rfl (Nat.le_of_ble_eq_true rfl) ?_
  intro sz p e s m args below meth c hin2 C
  refine tn_aload_n C dJ5_init_d00df_0 rfl 0 rfl ?_
  refine tn_obj C q_403 q_164 q_165o (Nat.le_of_ble_eq_true rfl) ⟨Nat.le_of_ble_eq_true rfl, Nat.le_of_ble_eq_true rfl⟩ dJ5_init_d00df_1 ?_
  refine tn_getCS C q_404 dJ5_init_d00df_4 ?_
  refine tn_ifeq0 C (by decide) 25 dJ5_init_d00df_7 rfl ?_
  refine tn_aload_n C dJ5_init_d00df_10 rfl 0 rfl ?_
  refine tn_iload_n C dJ5_init_d00df_11 rfl 1 rfl ?_
  refine tn_newa_byte C (x := 16) 16 (by decide) (by decide) q_427 ⟨Nat.le_of_ble_eq_true rfl, Nat.le_of_ble_eq_true rfl⟩ dJ5_init_d00df_12 (fun v1 => ?_)
  refine tn_cv [(a, .inr (1, [.null, ts_v 0, ts_v 0, ts_v 0])), (v1, .inl (γ.2 3, 16, .inl (fun _ => ts_I 0)))] rfl ?_
  refine tn_put C 0 0 rfl rfl inJ4 tyJ4 tyJ4_ok nmJ4 (by decide) q_413 rfl rfl rfl rfl (by simp) dJ5_init_d00df_14 ?_
  refine tn_cv [(a, .inr (1, [.ref v1, ts_v 0, ts_v 0, ts_v 0])), (v1, .inl (γ.2 3, 16, .inl (fun _ => ts_I 0)))] rfl ?_
  refine tn_aload_n C dJ5_init_d00df_17 rfl 0 rfl ?_
  refine tn_iconst C dJ5_init_d00df_18 0 rfl ?_
  refine tn_put C 0 1 rfl rfl inJ4 tyJ4 tyJ4_ok nmJ4 (by decide) q_414 rfl rfl rfl rfl (by simp) dJ5_init_d00df_19 ?_
  refine tn_cv [(a, .inr (1, [.ref v1, ts_v 0, ts_v 0, ts_v 0])), (v1, .inl (γ.2 3, 16, .inl (fun _ => ts_I 0)))] rfl ?_
  refine tn_goto C 38 dJ5_init_d00df_22 rfl ?_
  exact tn_ret C (Nat.le_of_ble_eq_true rfl) (Nat.le_of_ble_eq_true rfl) dJ5_init_d00df_38 ⟨v1, rfl⟩
theorem kcJ5 : ts_Yc yJ5_init_d00df cJ5_init_d00df 2 1 := ⟨q_401, q_128, q_402, by decide +kernel, by decide +kernel, rfl⟩
theorem nJ4_init {l : Launch} {γ : ts_γ} (a : Nat) : ts_ConN l γ yJ4_init_da8c8 cJ4_init_da8c8 1 2 1 16 a [] (.inr (1, [.null, ts_v 0, ts_v 0, ts_v 0])) (fun w => ∃ v1 : Nat, w = [(a, .inr (1, [.ref v1, ts_v 0, ts_v 0, ts_v 0])), (v1, .inl (γ.2 3, 16, .inl (fun _ => ts_I 0)))]) := by
  refine ts_ConN.of (by decide) rfl (Nat.le_of_ble_eq_true rfl) ?_
  intro sz p e s m args below meth c hin2 C
  refine tn_aload_n C dJ4_init_da8c8_0 rfl 0 rfl ?_
  refine tn_bipush C dJ4_init_da8c8_1 16 (by decide) ?_
  refine tn_cv ([] ++ [(a, .inr (1, [.null, ts_v 0, ts_v 0, ts_v 0]))]) rfl ?_
  refine tn_ctor C [ts_v 16] (nJ5_init a) kcJ5 rfl rfl q_400 (Nat.le_of_ble_eq_true rfl) ⟨Nat.le_of_ble_eq_true rfl, Nat.le_of_ble_eq_true rfl⟩ ⟨Nat.le_of_ble_eq_true rfl, Nat.le_of_ble_eq_true rfl⟩ dJ4_init_da8c8_3 (fun w1 hw1 => ?_)
  exact tn_ret C (Nat.le_of_ble_eq_true rfl) (Nat.le_of_ble_eq_true rfl) dJ4_init_da8c8_6 hw1
theorem kcJ4 : ts_Yc yJ4_init_da8c8 cJ4_init_da8c8 1 0 := ⟨q_398, q_129, q_399, by decide +kernel, by decide +kernel, rfl⟩
/-- a State's cells at ad 0 .. ad 13, all new -/
def ts_SW (γ : ts_γ) (ad : Nat → Nat) : va_W := [(ad 0, .inr (10, [.ref (ad 1), .ref (ad 6), .ref (ad 9), .ref (ad 11), .ref (ad 13), ts_v 0, ts_v 0, ts_v 0, ts_v 0])), (ad 1, .inr (9, [.ref (ad 2), .ref (ad 3), .ref (ad 4), .ref (ad 5), ts_v 0, ts_v 0, ts_v 0, ts_v 0])),
  (ad 2, .inl (γ.2 0, 8, .inl (fun _ => ts_I 0))), (ad 3, .inl (γ.2 0, 8, .inl (fun _ => ts_I 0))), (ad 4, .inl (γ.2 0, 8, .inl (fun _ => ts_I 0))), (ad 5, .inl (γ.2 0, 8, .inl (fun _ => ts_I 0))), (ad 6, .inr (6, [.ref (ad 7), .ref (ad 8), ts_v 0, ts_v 0])), (ad 7, .inl (γ.2 0, 6, .inl (fun _ => ts_I 0))), (ad 8, .inl (γ.2 0, 6, .inl (fun _ => ts_I 0))),
  (ad 9, .inr (11, [.ref (ad 10), ts_v 0, ts_v 0, ts_v 0, ts_v 0])), (ad 10, .inl (γ.2 0, 5, .inl (fun _ => ts_I 0))), (ad 11, .inr (4, [.long 0, .ref (ad 12), ts_v 0])), (ad 12, .inl (γ.2 1, 64, .inr (.inl (fun _ => 0)))), (ad 13, .inl (γ.2 0, 20, .inl (fun _ => ts_I 0)))]
theorem ts_ConN.mono {l : Launch} {γ : ts_γ} {y : MethodName} {cc : ByteArray} {maxL d mc ms a : Nat} {As : List Value} {e0 : va_E} {P P' : va_W → Prop} (h : ts_ConN l γ y cc maxL d mc ms a As e0 P) (hp : ∀ w, P w → P' w) : ts_ConN l γ y cc maxL d mc ms a As e0 P' := fun sz => MetFree.mono (h sz) (fun _ _ q => q) (fun _ _ _ _ _ q => q) (fun _ _ _ _ _ q => by obtain ⟨⟨w, h1, h2, h3⟩, h4⟩ := q; exact ⟨⟨w, h1, hp w h2, h3⟩, h4⟩)

theorem nX9_initS {l : Launch} {γ : ts_γ} (a : Nat) : ts_ConN l γ yX9_init cX9_init 1 2 13 153 a [] (.inr (10, [.null, .null, .null, .null, .null, ts_v 0, ts_v 0, ts_v 0, ts_v 0])) (fun w => ∃ ad : Nat → Nat, ad 0 = a ∧ w = ts_SW γ ad) :=
  (nX9_init a).mono (fun w h => by
    obtain ⟨v1, v1_v1, v1_v2, v1_v3, v1_v4, v2, v2_v1, v2_v2, v3, v3_v1, v4, v4_v1, v5, rfl⟩ := h
    exact ⟨fun n => match n with | 0 => a | 1 => v1 | 2 => v1_v1 | 3 => v1_v2 | 4 => v1_v3 | 5 => v1_v4 | 6 => v2 | 7 => v2_v1 | 8 => v2_v2 | 9 => v3 | 10 => v3_v1 | 11 => v4 | 12 => v4_v1 | _ => v5, rfl, rfl⟩)
def ts_SL (γ : ts_γ) (ad : Nat → Nat → Nat) : Nat → va_W
  | 0 => []
  | n + 1 => ts_SL γ ad n ++ ts_SW γ (ad n)
theorem ts_SL_congr {γ : ts_γ} {ad ad' : Nat → Nat → Nat} : ∀ {n : Nat}, (∀ i, i < n → ad i = ad' i) → ts_SL γ ad n = ts_SL γ ad' n
  | 0, _ => rfl
  | n + 1, h => by
    show ts_SL γ ad n ++ ts_SW γ (ad n) = ts_SL γ ad' n ++ ts_SW γ (ad' n)
    rw [ts_SL_congr (fun i hi => h i (by omega)), h n (by omega)]
/-- History's world when j states are made -/
def ts_HW (γ : ts_γ) (a v : Nat) (ad : Nat → Nat → Nat) (j : Nat) : va_W := (a, .inr (5, [.ref v, ts_v 0, ts_v 0])) :: (v, .inl (γ.2 5, 8, .inr (.inr (.inr (.inr (fun i => if i < j then some (ad i 0) else none)))))) :: ts_SL γ ad j
theorem tn_hloop {p : Program} {l : Launch} {e : Env} {R : Room} {s : State} {m : MethodId} {args : Array Value} {below : List Frame} {meth : Method} {c : Code} {Q : State → Prop} {γ : ts_γ} {A : Nat → Prop} {ret : Option FieldType} (C : ts_NC p s m args meth c γ A cX3_init "TeaspoonSalon$History" 2 ret) {a v : Nat} (hRf : 3 ≤ R.frames ∧ 8 + (1 + 11) + 40 * 2 ≤ R.locals) (hRc : 1 + 14 * 8 ≤ R.cells ∧ 8 + 162 * 8 ≤ R.slots)
    (hend : ∀ ad, ts_N p l e R s m args below meth c γ A 2 (1 + 14 * 8) (8 + 162 * 8) Q 40 [(1, ts_v 8), (0, .ref a)] [] (ts_HW γ a v ad 8)) : ∀ (k j : Nat), j + k = 8 → ∀ ad, ts_N p l e R s m args below meth c γ A 2 (1 + 14 * j) (8 + 162 * j) Q 15 [(1, ts_v (j : Int)), (0, .ref a)] [] (ts_HW γ a v ad j) := by
  intro k
  induction k with
  | zero =>
    intro j hj ad
    have hj8 : j = 8 := by omega
    subst hj8
    refine tn_iload_n C dX3_init_15 rfl 0 rfl ?_
    refine tn_bipush C dX3_init_16 8 (by decide) ?_
    refine tn_icmp_ge C 40 dX3_init_18 rfl (fun _ => hend ad) (fun h => absurd (by decide) h)
  | succ k ih =>
    intro j hj ad
    have hw : ts_w (j : Int) = (j : Int) := ts_w_eq (by omega) (by omega)
    have h8 : ts_w 8 = 8 := by decide
    refine tn_iload_n C dX3_init_15 rfl 0 rfl ?_
    refine tn_bipush C dX3_init_16 8 (by decide) ?_
    refine tn_icmp_ge C 40 dX3_init_18 rfl (fun h => by rw [hw, h8] at h; omega) (fun _ => ?_)
    refine tn_aload_n C dX3_init_21 rfl 1 rfl ?_
    refine tn_get C 0 0 rfl rfl inX3 (by decide) q_336 rfl dX3_init_22 ?_
    refine tn_iload_n C dX3_init_25 rfl 0 rfl ?_
    refine tn_new C (ci := 10) rfl inX9 tyX9 tyX9_ok (fs := [.null, .null, .null, .null, .null, ts_v 0, ts_v 0, ts_v 0, ts_v 0]) (by intro j hj; match j, hj with | 0, _ => rfl | 1, _ => rfl | 2, _ => rfl | 3, _ => rfl | 4, _ => rfl | 5, _ => rfl | 6, _ => rfl | 7, _ => rfl | 8, _ => rfl) q_333 q_167 q_120 ⟨by omega, by omega⟩ dX3_init_26 (fun v1 => ?_)
    refine tn_dup C dX3_init_29 rfl ?_
    refine tn_ctorN C (host := "TeaspoonSalon") (nX9_initS v1) kcX9 qn_5 (Nat.le_of_ble_eq_true rfl) hRf ⟨by omega, by omega⟩ dX3_init_30 (fun w1 hw1 => ?_)
    obtain ⟨ad1, h0, rfl⟩ := hw1
    have hlast : (ts_HW γ a v ad j ++ ts_SW γ ad1)[(ts_HW γ a v ad j).length]? = some (v1, .inr (10, [.ref (ad1 1), .ref (ad1 6), .ref (ad1 9), .ref (ad1 11), .ref (ad1 13), ts_v 0, ts_v 0, ts_v 0, ts_v 0])) := by
      rw [List.getElem?_append_right (Nat.le_refl _), Nat.sub_self, ← h0]; rfl
    refine tn_aast C (a := v) (n := 8) (f := fun i => if i < j then some (ad i 0) else none) 1 _ rfl hlast (by rw [hw]; omega) dX3_init_33 ?_
    have hset : (ts_HW γ a v ad j ++ ts_SW γ ad1).set 1 (v, .inl (γ.2 5, 8, .inr (.inr (.inr (.inr (va_up (fun i => if i < j then some (ad i 0) else none) (ts_w (j : Int)).toNat (some v1))))))) = ts_HW γ a v (fun i => if i = j then ad1 else ad i) (j + 1) := by
      have e1 : (ts_w (j : Int)).toNat = j := by rw [hw]; rfl
      have e2 : va_up (fun i => if i < j then some (ad i 0) else none) j (some v1) = fun i => if i < j + 1 then some ((if i = j then ad1 else ad i) 0) else none := by
        funext i
        by_cases hi : i = j
        · subst hi
          simp [va_up, h0]
        · by_cases hi2 : i < j
          · simp [va_up, hi, hi2, show i < j + 1 by omega]
          · simp [va_up, hi, hi2, show ¬ i < j + 1 by omega]
      have e3 : ts_SL γ (fun i => if i = j then ad1 else ad i) (j + 1) = ts_SL γ ad j ++ ts_SW γ ad1 := by
        show ts_SL γ (fun i => if i = j then ad1 else ad i) j ++ ts_SW γ (if j = j then ad1 else ad j) = _
        rw [if_pos rfl, ts_SL_congr (ad := fun i => if i = j then ad1 else ad i) (ad' := ad) (fun i hi => by simp [show i ≠ j by omega])]
      unfold ts_HW
      rw [e1, e2, e3]
      rfl
    rw [hset]
    refine tn_iinc C dX3_init_34 0 rfl (by decide) (lv' := [(1, ts_v ((j + 1 : Nat) : Int)), (0, .ref a)]) rfl ?_
    refine tn_goto C 15 dX3_init_37 rfl ?_
    have := ih (j + 1) (by omega) (fun i => if i = j then ad1 else ad i)
    rw [show 1 + 14 * (j + 1) = 1 + 14 * j + 1 + 13 by omega, show 8 + 162 * (j + 1) = 8 + 162 * j + 9 + 153 by omega] at this
    exact this

theorem nX3_init {l : Launch} {γ : ts_γ} (a : Nat) : ts_ConN l γ yX3_init cX3_init 2 3 113 1304 a [] (.inr (5, [.null, ts_v 0, ts_v 0])) (fun w => ∃ (v : Nat) (ad : Nat → Nat → Nat), w = ts_HW γ a v ad 8) := by
  refine ts_ConN.of (by decide) rfl (Nat.le_of_ble_eq_true rfl) ?_
  intro sz p e s m args below meth c hin2 C
  refine tn_aload_n C dX3_init_0 rfl 0 rfl ?_
  refine tn_obj C q_332 q_164 q_165o (Nat.le_of_ble_eq_true rfl) ⟨Nat.le_of_ble_eq_true rfl, Nat.le_of_ble_eq_true rfl⟩ dX3_init_1 ?_
  refine tn_aload_n C dX3_init_4 rfl 0 rfl ?_
  refine tn_bipush C dX3_init_5 8 (by decide) ?_
  refine tn_newq_State C 8 (by decide) (by decide) q_333 ⟨Nat.le_of_ble_eq_true rfl, Nat.le_of_ble_eq_true rfl⟩ dX3_init_7 (fun v => ?_)
  refine tn_putF C hin2 0 0 rfl rfl inX3 tyX3 tyX3_ok nmX3 (by decide) q_336 rfl rfl rfl rfl rfl (by simp) dX3_init_10 ?_
  refine tn_iconst C dX3_init_13 0 rfl ?_
  refine tn_istore_n C dX3_init_14 rfl (by decide) (lv' := [(1, ts_v 0), (0, .ref a)]) rfl ?_
  refine tn_cv (ts_HW γ a v (fun _ _ => 0) 0) (by unfold ts_HW; simp [ts_SL]) ?_
  exact tn_hloop C (by simp only [ts_rm]; omega) (by simp only [ts_rm]; omega) (fun ad => tn_ret C (Nat.le_of_ble_eq_true rfl) (Nat.le_of_ble_eq_true rfl) dX3_init_40 ⟨v, ad, rfl⟩) 8 0 rfl (fun _ _ => 0)
theorem kcX3 : ts_Yc yX3_init cX3_init 2 0 := ⟨q_330, q_125, q_331, by decide +kernel, by decide +kernel, rfl⟩
