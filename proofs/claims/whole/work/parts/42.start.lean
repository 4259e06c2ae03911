theorem q_943 : Cond.laysFinal "java/lang/String" "java/lang/String" "value" "[B" ∈ lw_good := ts_gd (List.mem_of_getElem? (i := 943) (by decide +kernel)) (by decide +kernel)
theorem q_945 : Cond.laysFinal "java/lang/String" "java/lang/String" "coder" "B" ∈ lw_good := ts_gd (List.mem_of_getElem? (i := 945) (by decide +kernel)) (by decide +kernel)
theorem q_947 : Cond.lays "java/lang/String" "java/lang/String" "hash" "I" ∈ lw_good := ts_gd (List.mem_of_getElem? (i := 947) (by decide +kernel)) (by decide +kernel)
theorem q_949 : Cond.lays "java/lang/String" "java/lang/String" "hashIsZero" "Z" ∈ lw_good := ts_gd (List.mem_of_getElem? (i := 949) (by decide +kernel)) (by decide +kernel)
theorem q_981 : Cond.lays "java/lang/ArrayIndexOutOfBoundsException" "java/lang/Throwable" "cause" "Ljava/lang/Throwable;" ∈ lw_good := ts_gd (List.mem_of_getElem? (i := 981) (by decide +kernel)) (by decide +kernel)
theorem q_982 : Cond.lays "java/lang/ArrayIndexOutOfBoundsException" "java/lang/Throwable" "stackTrace" "[Ljava/lang/StackTraceElement;" ∈ lw_good := ts_gd (List.mem_of_getElem? (i := 982) (by decide +kernel)) (by decide +kernel)
theorem q_983 : Cond.lays "java/lang/ArrayIndexOutOfBoundsException" "java/lang/Throwable" "suppressedExceptions" "Ljava/util/List;" ∈ lw_good := ts_gd (List.mem_of_getElem? (i := 983) (by decide +kernel)) (by decide +kernel)
theorem q_984 : Cond.lays "java/lang/ArrayIndexOutOfBoundsException" "java/lang/Throwable" "detailMessage" "Ljava/lang/String;" ∈ lw_good := ts_gd (List.mem_of_getElem? (i := 984) (by decide +kernel)) (by decide +kernel)
theorem q_985 : Cond.lays "java/lang/ArrayIndexOutOfBoundsException" "java/lang/Throwable" "backtrace" "Ljava/lang/Object;" ∈ lw_good := ts_gd (List.mem_of_getElem? (i := 985) (by decide +kernel)) (by decide +kernel)
theorem q_996 : Cond.lays "java/lang/ArrayIndexOutOfBoundsException" "java/lang/Throwable" "depth" "I" ∈ lw_good := ts_gd (List.mem_of_getElem? (i := 996) (by decide +kernel)) (by decide +kernel)
theorem q_956 : Cond.lays "java/lang/StringIndexOutOfBoundsException" "java/lang/Throwable" "backtrace" "Ljava/lang/Object;" ∈ lw_good := ts_gd (List.mem_of_getElem? (i := 956) (by decide +kernel)) (by decide +kernel)
theorem q_957 : Cond.lays "java/lang/StringIndexOutOfBoundsException" "java/lang/Throwable" "detailMessage" "Ljava/lang/String;" ∈ lw_good := ts_gd (List.mem_of_getElem? (i := 957) (by decide +kernel)) (by decide +kernel)
theorem q_958 : Cond.lays "java/lang/StringIndexOutOfBoundsException" "java/lang/Throwable" "cause" "Ljava/lang/Throwable;" ∈ lw_good := ts_gd (List.mem_of_getElem? (i := 958) (by decide +kernel)) (by decide +kernel)
theorem q_959 : Cond.lays "java/lang/StringIndexOutOfBoundsException" "java/lang/Throwable" "stackTrace" "[Ljava/lang/StackTraceElement;" ∈ lw_good := ts_gd (List.mem_of_getElem? (i := 959) (by decide +kernel)) (by decide +kernel)
theorem q_960 : Cond.lays "java/lang/StringIndexOutOfBoundsException" "java/lang/Throwable" "depth" "I" ∈ lw_good := ts_gd (List.mem_of_getElem? (i := 960) (by decide +kernel)) (by decide +kernel)
theorem q_961 : Cond.lays "java/lang/StringIndexOutOfBoundsException" "java/lang/Throwable" "suppressedExceptions" "Ljava/util/List;" ∈ lw_good := ts_gd (List.mem_of_getElem? (i := 961) (by decide +kernel)) (by decide +kernel)
theorem q_820 : Cond.instantiable "java/lang/String" 4 ∈ lw_good := ts_gd (List.mem_of_getElem? (i := 820) (by decide +kernel)) (by decide +kernel)
theorem q_976 : Cond.instantiable "java/lang/ArrayIndexOutOfBoundsException" 6 ∈ lw_good := ts_gd (List.mem_of_getElem? (i := 976) (by decide +kernel)) (by decide +kernel)
theorem q_667 : Cond.instantiable "java/lang/StringIndexOutOfBoundsException" 6 ∈ lw_good := ts_gd (List.mem_of_getElem? (i := 667) (by decide +kernel)) (by decide +kernel)
theorem q_159 : Cond.instantiable "TeaspoonSalon" 10 ∈ lw_good := ts_gd (List.mem_of_getElem? (i := 159) (by decide +kernel)) (by decide +kernel)
theorem q_1953 : Cond.instantiable "TeaspoonSalonModel" 21 ∈ lw_good := ts_gd (List.mem_of_getElem? (i := 1953) (by decide +kernel)) (by decide +kernel)
theorem q_2593 : Cond.arrayClass .double ∈ lw_good := ts_gd (List.mem_of_getElem? (i := 2593) (by decide +kernel)) (by decide +kernel)
theorem inJ0 : ∀ w ∈ u_ws RJ0 TJ0 4, w ∈ lw_good := by
  show ∀ w ∈ [Cond.laysFinal "java/lang/String" "java/lang/String" "value" "[B", Cond.laysFinal "java/lang/String" "java/lang/String" "coder" "B", Cond.lays "java/lang/String" "java/lang/String" "hash" "I", Cond.lays "java/lang/String" "java/lang/String" "hashIsZero" "Z"], w ∈ lw_good
  exact List.forall_mem_cons.mpr ⟨q_943, List.forall_mem_cons.mpr ⟨q_945, List.forall_mem_cons.mpr ⟨q_947, List.forall_mem_cons.mpr ⟨q_949, fun _ h => absurd h List.not_mem_nil⟩⟩⟩⟩
theorem inJx00060 : ∀ w ∈ u_ws RJx00060 TJx00060 6, w ∈ lw_good := by
  show ∀ w ∈ [Cond.lays "java/lang/ArrayIndexOutOfBoundsException" "java/lang/Throwable" "cause" "Ljava/lang/Throwable;", Cond.lays "java/lang/ArrayIndexOutOfBoundsException" "java/lang/Throwable" "stackTrace" "[Ljava/lang/StackTraceElement;", Cond.lays "java/lang/ArrayIndexOutOfBoundsException" "java/lang/Throwable" "suppressedExceptions" "Ljava/util/List;", Cond.lays "java/lang/ArrayIndexOutOfBoundsException" "java/lang/Throwable" "detailMessage" "Ljava/lang/String;", Cond.lays "java/lang/ArrayIndexOutOfBoundsException" "java/lang/Throwable" "backtrace" "Ljava/lang/Object;", Cond.lays "java/lang/ArrayIndexOutOfBoundsException" "java/lang/Throwable" "depth" "I"], w ∈ lw_good
  exact List.forall_mem_cons.mpr ⟨q_981, List.forall_mem_cons.mpr ⟨q_982, List.forall_mem_cons.mpr ⟨q_983, List.forall_mem_cons.mpr ⟨q_984, List.forall_mem_cons.mpr ⟨q_985, List.forall_mem_cons.mpr ⟨q_996, fun _ h => absurd h List.not_mem_nil⟩⟩⟩⟩⟩⟩
theorem inJx7c733 : ∀ w ∈ u_ws RJx7c733 TJx7c733 6, w ∈ lw_good := by
  show ∀ w ∈ [Cond.lays "java/lang/StringIndexOutOfBoundsException" "java/lang/Throwable" "backtrace" "Ljava/lang/Object;", Cond.lays "java/lang/StringIndexOutOfBoundsException" "java/lang/Throwable" "detailMessage" "Ljava/lang/String;", Cond.lays "java/lang/StringIndexOutOfBoundsException" "java/lang/Throwable" "cause" "Ljava/lang/Throwable;", Cond.lays "java/lang/StringIndexOutOfBoundsException" "java/lang/Throwable" "stackTrace" "[Ljava/lang/StackTraceElement;", Cond.lays "java/lang/StringIndexOutOfBoundsException" "java/lang/Throwable" "depth" "I", Cond.lays "java/lang/StringIndexOutOfBoundsException" "java/lang/Throwable" "suppressedExceptions" "Ljava/util/List;"], w ∈ lw_good
  exact List.forall_mem_cons.mpr ⟨q_956, List.forall_mem_cons.mpr ⟨q_957, List.forall_mem_cons.mpr ⟨q_958, List.forall_mem_cons.mpr ⟨q_959, List.forall_mem_cons.mpr ⟨q_960, List.forall_mem_cons.mpr ⟨q_961, fun _ h => absurd h List.not_mem_nil⟩⟩⟩⟩⟩⟩
theorem st_arr {s : State} {args : Array Value} {ty : FieldType} (h : (Cond.arrayClass ty).before args s = true) : ∃ cA : ClassId, ArrOfT s cA ty ∧ s.vm.findClass ("[" ++ ty.toString) = some cA := by
  obtain ⟨c, k, comp, h1, h2, h3⟩ := Cond.arrayClass_spec h
  exact ⟨c, fun N z => ⟨(fun _ h => by cases h), k, h2, comp, h3⟩, h1⟩
theorem st_arrO {s : State} {args : Array Value} {C : String} (h : (Cond.arrayOver (.object C)).before args s = true) : ∃ cA : ClassId, ArrOfT s cA (.object C) ∧ va_RA s cA (.object C) := by
  obtain ⟨comp, c, k, h1, h2, h3, h4, h5⟩ := Cond.arrayOver_spec h
  exact ⟨c, fun N z => ⟨(fun _ h => by cases h), k, h3, comp, h4⟩, k, comp, h3, h4, h1, h5⟩
theorem st_K {s : State} {args : Array Value} (hts : ∀ w ∈ lw_tbl, w.before args s = true) : ∃ γ : ts_γ, va_K γ.1 vwCl (ts_Nty γ) s ∧ va_AO RX9 s ∧ va_AO RX2 s := by
  have htg : ∀ w ∈ lw_good, w.before args s = true := fun w hw => hts w (List.mem_filter.mp hw).1
  obtain ⟨c0, i0, k0⟩ := u_known (C := RJ0) (T := TJ0) (N := 4) (n := 4) htg inJ0 (htg _ q_820)
  obtain ⟨c1, i1, k1⟩ := u_known (C := RJ4) (T := TJ4) (N := 4) (n := 4) htg inJ4 (htg _ q_396)
  obtain ⟨c2, i2, k2⟩ := u_known (C := RJx00060) (T := TJx00060) (N := 6) (n := 6) htg inJx00060 (htg _ q_976)
  obtain ⟨c3, i3, k3⟩ := u_known (C := RJx7c733) (T := TJx7c733) (N := 6) (n := 6) htg inJx7c733 (htg _ q_667)
  obtain ⟨c4, i4, k4⟩ := u_known (C := RX1) (T := TX1) (N := 3) (n := 3) htg inX1 (htg _ q_271)
  obtain ⟨c5, i5, k5⟩ := u_known (C := RX3) (T := TX3) (N := 3) (n := 3) htg inX3 (htg _ q_328)
  obtain ⟨c6, i6, k6⟩ := u_known (C := RX4) (T := TX4) (N := 4) (n := 4) htg inX4 (htg _ q_215)
  obtain ⟨c7, i7, k7⟩ := u_known (C := RX5) (T := TX5) (N := 3) (n := 3) htg inX5 (htg _ q_348)
  obtain ⟨c8, i8, k8⟩ := u_known (C := RX7) (T := TX7) (N := 7) (n := 7) htg inX7 (htg _ q_364)
  obtain ⟨c9, i9, k9⟩ := u_known (C := RX8) (T := TX8) (N := 8) (n := 8) htg inX8 (htg _ q_173)
  obtain ⟨c10, i10, k10⟩ := u_known (C := RX9) (T := TX9) (N := 9) (n := 9) htg inX9 (htg _ q_167)
  obtain ⟨c11, i11, k11⟩ := u_known (C := RX10) (T := TX10) (N := 5) (n := 5) htg inX10 (htg _ q_241)
  obtain ⟨c12, i12, k12⟩ := u_known (C := RX11) (T := TX11) (N := 10) (n := 10) htg inX11 (htg _ q_159)
  obtain ⟨c13, i13, k13⟩ := u_known (C := RX12) (T := TX12) (N := 21) (n := 21) htg inX12 (htg _ q_1953)
  have hC : ∀ c : Nat, ∃ x : ClassId × (Nat → Nat), ∀ q, vwCl[c]? = some q → u_Kn s q.1 q.2.1 q.2.2 x.1 x.2 := by
    intro c
    match c with
    | 0 => exact ⟨(c0, i0), fun q hq => by cases hq; exact k0⟩
    | 1 => exact ⟨(c1, i1), fun q hq => by cases hq; exact k1⟩
    | 2 => exact ⟨(c2, i2), fun q hq => by cases hq; exact k2⟩
    | 3 => exact ⟨(c3, i3), fun q hq => by cases hq; exact k3⟩
    | 4 => exact ⟨(c4, i4), fun q hq => by cases hq; exact k4⟩
    | 5 => exact ⟨(c5, i5), fun q hq => by cases hq; exact k5⟩
    | 6 => exact ⟨(c6, i6), fun q hq => by cases hq; exact k6⟩
    | 7 => exact ⟨(c7, i7), fun q hq => by cases hq; exact k7⟩
    | 8 => exact ⟨(c8, i8), fun q hq => by cases hq; exact k8⟩
    | 9 => exact ⟨(c9, i9), fun q hq => by cases hq; exact k9⟩
    | 10 => exact ⟨(c10, i10), fun q hq => by cases hq; exact k10⟩
    | 11 => exact ⟨(c11, i11), fun q hq => by cases hq; exact k11⟩
    | 12 => exact ⟨(c12, i12), fun q hq => by cases hq; exact k12⟩
    | 13 => exact ⟨(c13, i13), fun q hq => by cases hq; exact k13⟩
    | n + 14 => exact ⟨(c0, i0), fun q hq => by cases hq⟩
  obtain ⟨f, hf⟩ := Classical.axiomOfChoice hC
  have hS : (Cond.arrayOver (.object RX9)).before args s = true := hts _ (List.mem_of_getElem? (i := 334) (by decide +kernel))
  have hM : (Cond.arrayOver (.object RX2)).before args s = true := hts _ (List.mem_of_getElem? (i := 370) (by decide +kernel))
  obtain ⟨a0, p0, r0⟩ := st_arr (htg _ q_213)
  obtain ⟨a1, p1, r1⟩ := st_arr (htg _ q_288)
  obtain ⟨a2, p2, r2⟩ := st_arr (htg _ q_394)
  obtain ⟨a3, p3, r3⟩ := st_arr (htg _ q_427)
  obtain ⟨a4, p4, r4⟩ := st_arr (htg _ q_2593)
  obtain ⟨a5, p5, r5⟩ := st_arrO hS
  obtain ⟨a6, p6, r6⟩ := st_arrO hM
  refine ⟨((fun c => (f c).1, fun c => (f c).2), fun n => match n with | 0 => a0 | 1 => a1 | 2 => a2 | 3 => a3 | 4 => a4 | 5 => a5 | _ => a6), ⟨fun c q hq => hf c q hq, fun k q hq => ?_⟩, hS, hM⟩
  match k, hq with
  | 0, hq => cases hq; exact ⟨p0, r0⟩
  | 1, hq => cases hq; exact ⟨p1, r1⟩
  | 2, hq => cases hq; exact ⟨p2, r2⟩
  | 3, hq => cases hq; exact ⟨p3, r3⟩
  | 4, hq => cases hq; exact ⟨p4, r4⟩
  | 5, hq => cases hq; exact ⟨p5, r5⟩
  | 6, hq => cases hq; exact ⟨p6, r6⟩
  | n + 7, hq => cases hq

/-- the nest's, casts' and declarations' words at the start -/
theorem st_nw {s : State} {args : Array Value} (hts : ∀ w ∈ lw_tbl, w.before args s = true) : ∀ w ∈ ts_nw, va_Nw w s := by
  have h : ∀ w ∈ ts_nw, w ∈ lw_tbl := by decide +kernel
  exact fun w hw => va_Nw.of (ts_nw_tab (ts_nw_k w hw)) (hts w (h w hw))
theorem st_sel_priv {a' : Array Value} {U : State} {y : MethodName} (h1 : (Cond.selects RJ4 ⟨RJ5, "isLatin1", "()Z"⟩ ⟨RJ5, "isLatin1", "()Z"⟩).before a' U = true) (hpriv : (Cond.privateMethod y).before a' U = true) (hinst : (Cond.instanceMethod y).before a' U = true) (hy : y.cls ≠ "java/lang/invoke/MethodHandle" ∧ y.cls ≠ "java/lang/invoke/VarHandle") (hc5 : y.cls = RJ5) : (Cond.selects RJ4 y y).before a' U = true := by
  obtain ⟨c9, r9, m9, q1, q2, q3, q4, mk9, q5, q6⟩ := Cond.selects_spec h1
  obtain ⟨mk, methM, hnamed, hmethM, -, -⟩ := Cond.instanceMethod_spec hinst
  have hfound : U.methodFound? y.cls y.name y.desc = some mk := State.methodFound?_of_named hnamed hy
  have hcls : mk.cls = m9.cls := by
    have z1 := findClass_of_methodNamed hnamed
    have z2 := findClass_of_methodNamed q3
    rw [hc5] at z1
    exact Option.some.inj (z1.symm.trans z2)
  have hsel : selectMethod {} U.vm c9 mk = .method mk := selectMethod_private hmethM (Cond.privateMethod_at hpriv mk methM hnamed hmethM)
  simp only [Cond.before, Cond.holds, Cond.value, q1, hfound, hnamed, hsel, hcls, q5]
  simp [q6]
theorem st_pv {s : State} {args : Array Value} (hts : ∀ w ∈ lw_tbl, w.before args s = true) : ∀ w ∈ ts_pv, va_Nw w s := by
  have h0 : (Cond.selects RJ4 ⟨RJ5, "isLatin1", "()Z"⟩ ⟨RJ5, "isLatin1", "()Z"⟩).before args s = true := hts _ (List.mem_of_getElem? (i := 719) (by decide +kernel))
  have h1 : (Cond.selects RJ4 ⟨RJ5, "ensureCapacityInternal", "(I)V"⟩ ⟨RJ5, "ensureCapacityInternal", "(I)V"⟩).before args s = true := st_sel_priv h0 (hts _ (List.mem_of_getElem? (i := 686) (by decide +kernel))) (hts _ (List.mem_of_getElem? (i := 687) (by decide +kernel))) (by decide) rfl
  have h2 : (Cond.selects RJ4 ⟨RJ5, "newCapacity", "(I)I"⟩ ⟨RJ5, "newCapacity", "(I)I"⟩).before args s = true := st_sel_priv h0 (hts _ (List.mem_of_getElem? (i := 690) (by decide +kernel))) (hts _ (List.mem_of_getElem? (i := 691) (by decide +kernel))) (by decide) rfl
  intro w hw
  have hk := ((Bool.and_eq_true _ _).mp (ts_pv_k w hw)).1
  rcases List.mem_cons.mp hw with rfl | hw2
  · exact va_Nw.of hk h1
  · cases List.mem_singleton.mp hw2
    exact va_Nw.of hk h2
