abbrev ts_γ : Type := va_G × (Nat → ClassId)
abbrev ts_Nty (γ : ts_γ) : List (ClassId × FieldType) := [(γ.2 0, .int), (γ.2 1, .long), (γ.2 2, .char), (γ.2 3, .byte), (γ.2 4, .double), (γ.2 5, .object RX9), (γ.2 6, .object RX2)]
/-- what a frame that builds knows -/
def ts_NC (p : Program) (s : State) (m : MethodId) (args : Array Value) (meth : Method) (c : Code) (γ : ts_γ) (A : Nat → Prop) (cc : ByteArray) (own : String) (nL : Nat) (ret : Option FieldType) : Prop :=
  p.tables.exec = Jvm.exec ∧ c.code = cc ∧ c.maxLocals = nL ∧ s.vm.findClass own = some m.cls ∧ (∀ w ∈ lw_good, w.before args s = true) ∧ meth.sig.returnType = ret ∧ meth.locks = false ∧ va_K γ.1 vwCl (ts_Nty γ) s ∧ (∀ w ∈ ts_nw, va_Nw w s) ∧ (va_AO RX9 s ∧ va_AO RX2 s ∧ va_Z RJ0 "COMPACT_STRINGS" "Z" (.int 1) A s s.heap) ∧ (∀ q : Nat, s.heap.size ≤ q → A q)
def ts_N (p : Program) (l : Launch) (e : Env) (R : Room) (s : State) (m : MethodId) (args : Array Value) (below : List Frame) (meth : Method) (c : Code) (γ : ts_γ) (A : Nat → Prop) (nL ck sk : Nat) (Q : State → Prop) (pc : Nat) (lv : List (Nat × Value)) (st : List Value) (ws : va_W) : Prop :=
  ∀ (H : Heap) (locs : List Loc) (ls : Array Slot), va_P γ.1 vwCl ws H → va_D A ws → va_S A s.heap H locs → lv_has ls nL lv → W p l e R s m args below meth c H locs ck sk Q (F0 m pc ls st)
def ts_Nat (γ : ts_γ) (a : Nat) (e0 : va_E) (sz : Nat) (U : State) : Prop := va_P γ.1 vwCl [(a, e0)] U.heap ∧ va_K γ.1 vwCl (ts_Nty γ) U ∧ (∀ w ∈ ts_nw, va_Nw w U) ∧ (va_AO RX9 U ∧ va_AO RX2 U ∧ va_Z RJ0 "COMPACT_STRINGS" "Z" (.int 1) (va_A [(a, e0)] sz) U U.heap) ∧ U.heap.size = sz
def ts_NQ (γ : ts_γ) (a : Nat) (e0 : va_E) (sz : Nat) (Post : va_W → Prop) : Array Value → State → Outcome → State → Prop := fun _ st o t => ∃ w1, o = .returned none ∧ Post w1 ∧ va_P γ.1 vwCl w1 t.heap ∧ va_D (va_A [(a, e0)] sz) w1 ∧ va_F (va_A [(a, e0)] sz) st t
/-- a constructor's contract: from the blank object alone to its world -/
def ts_ConN (l : Launch) (γ : ts_γ) (y : MethodName) (cc : ByteArray) (maxL d mc ms : Nat) (a : Nat) (As : List Value) (e0 : va_E) (Post : va_W → Prop) : Prop :=
  ∀ sz : Nat, Met l y (.code y cc maxL none :: lw_good) (ts_rm d mc ms) (va_Pc (.ref a :: As) (ts_Nat γ a e0 sz)) (ts_NQ γ a e0 sz Post) mc ms (va_A [(a, e0)] sz)
theorem ts_Nat_blind {γ : ts_γ} {a : Nat} {av : List Value} {e0 : va_E} {sz : Nat} : FrameBlind (va_Pc av (ts_Nat γ a e0 sz)) := fun a0 U fr mk q => by
  obtain ⟨q0, h1, h2, h3, h4, h5⟩ := q
  exact ⟨q0, h1, va_K.moved (Vm.Alike.refl U.vm) h2, fun w hw => va_Nw.same (u := U) (U := U.calling fr mk a0) (ts_nw_tab (ts_nw_k w hw)) rfl (h3 w hw), ⟨va_AO.moved (Vm.Alike.refl U.vm) h4.1, va_AO.moved (Vm.Alike.refl U.vm) h4.2.1, va_Z.moved (u := U) (U := U.calling fr mk a0) (Vm.Alike.refl U.vm) h4.2.2⟩, h5⟩
theorem ts_join1 {A : Nat → Prop} {D : va_G} {cl : List vw_C} {w0 w1 : va_W} {q : Nat} {e : va_E} {H H1 : Heap} (hP : va_P D cl (w0 ++ [(q, e)]) H) (hD : va_D A (w0 ++ [(q, e)])) (hk : ∀ z : Nat, z < H.size → ¬ va_A [(q, e)] H.size z → H1[z]? = H[z]?) (hF : ∀ z, va_A [(q, e)] H.size z → A z) (hP1 : va_P D cl w1 H1) (hD1 : va_D (va_A [(q, e)] H.size) w1) : va_P D cl (w0 ++ w1) H1 ∧ va_D A (w0 ++ w1) := by
  have hin : ∀ (k : Nat) (x : Nat × va_E), w0[k]? = some x → (w0 ++ [(q, e)])[k]? = some x := fun k x hx => by
    rw [List.getElem?_append_left (List.getElem?_eq_some_iff.mp hx).1]; exact hx
  have hq : (w0 ++ [(q, e)])[w0.length]? = some (q, e) := by rw [List.getElem?_append_right (Nat.le_refl _), Nat.sub_self]; rfl
  have apart : ∀ (k : Nat) (x : Nat × va_E), w0[k]? = some x → x.1 < H.size ∧ ¬ va_A [(q, e)] H.size x.1 := fun k x hx => by
    have hlt := (hP k x (hin k x hx)).lt
    refine ⟨hlt, fun h => ?_⟩
    rcases h with ⟨k2, e2, h⟩ | h
    · have h0 : k2 < 1 := (List.getElem?_eq_some_iff.mp h).1
      rw [show k2 = 0 by omega] at h
      have hx1 : x.1 = q := (congrArg Prod.fst (Option.some.inj h)).symm
      have := hD.1 k w0.length x (q, e) (hin k x hx) hq hx1
      have h9 := (List.getElem?_eq_some_iff.mp hx).1
      omega
    · omega
  refine ⟨va_P.app (fun k x hx => ?_) hP1, va_D.app ⟨fun i j x y hx hy hxy => hD.1 i j x y (hin i x hx) (hin j y hy) hxy, fun k x hx => hD.2 k x (hin k x hx)⟩ (hD1.weaken (fun k x _ h => hF _ h)) (fun i j x y hx hy hxy => ?_)⟩
  · obtain ⟨g1, g2⟩ := apart k x hx
    exact (hP k x (hin k x hx)).kept (hk _ g1 g2)
  · exact (apart i x hx).2 (by rw [hxy]; exact hD1.2 j y hy)
section TSNR
variable {p : Program} {l : Launch} {e : Env} {R : Room} {s : State} {m : MethodId} {args : Array Value} {below : List Frame} {meth : Method} {c : Code} {Q : State → Prop}
variable {γ : ts_γ} {A : Nat → Prop} {cc : ByteArray} {own : String} {nL ck sk : Nat} {ret : Option FieldType} {pc : Nat} {lv : List (Nat × Value)} {st : List Value} {ws : va_W} {index : Nat}
theorem ts_ConN.of {y : MethodName} {cc : ByteArray} {maxL d mc ms a : Nat} {As : List Value} {e0 : va_E} {Post : va_W → Prop} (hy : plainName y.cls = true) (hyn : y.name = "<init>") (hn : (lg_sl (.ref a :: As)).length ≤ maxL)
    (body : ∀ sz p e s m args below meth c, meth.name = "<init>" → ts_NC p s m args meth c γ (va_A [(a, e0)] sz) cc y.cls maxL none → ts_N p l e (ts_rm d mc ms) s m args below meth c γ (va_A [(a, e0)] sz) maxL 0 0 (MQ below (ts_NQ γ a e0 sz Post) args s mc ms (va_A [(a, e0)] sz)) 0 (lv_args 0 (.ref a :: As)) [] [(a, e0)]) : ts_ConN l γ y cc maxL d mc ms a As e0 Post := by
  intro sz
  refine Met.ofW (cc := cc) (maxL := maxL) (ret := none) hy rfl ?_
  intro p e s m args below meth c s₁ B hml hv
  obtain ⟨hv0, hP, hK, hw, hao, hsz⟩ := hv
  have hts := atoms_spec (ws := Cond.code y cc maxL none :: lw_good) B.pre
  have hC : ts_NC p s m args meth c γ (va_A [(a, e0)] sz) cc y.cls maxL none := ⟨B.exec, B.bytes, hml, findClass_of_methodNamed B.named, fun w h => hts w (List.mem_cons_of_mem _ h), B.returns, B.notSynchronized, hK, hw, hao, fun q hq => Or.inr (by omega)⟩
  subst hv0
  have hl0 := lv_entry (Value.ref a :: As) (n := maxL) hn
  rw [lg_entry_eq]
  have hD : va_D (va_A [(a, e0)] sz) [(a, e0)] := ⟨fun i j x y hx hy _ => by
    have h1 := (List.getElem?_eq_some_iff.mp hx).1
    have h2 := (List.getElem?_eq_some_iff.mp hy).1
    simp only [List.length_cons, List.length_nil] at h1 h2
    omega, fun k x hx => va_A.in hx⟩
  exact body sz p e s m _ below meth c ((name_of_methodNamed B.named B.method).1.trans hyn) hC s.heap [] _ hP hD va_S.rf hl0
theorem tn_aload_n (C : ts_NC p s m args meth c γ A cc own nL ret) {k : Fin 4} {i x : Nat} (hdg : decode cc pc = .ok (.aload_n k, 1)) (hi : (k : Nat) = i) (j : Nat) (hj : lv[j]? = some (i, .ref x)) (kk : ts_N p l e R s m args below meth c γ A nL ck sk Q (pc + 1) lv (.ref x :: st) ws) : ts_N p l e R s m args below meth c γ A nL ck sk Q pc lv st ws := fun H locs ls hP hD hS hl => lv_aload_n C.1 C.2.1 hdg hi (lv_at hl j hj) (kk H locs ls hP hD hS hl)
theorem tn_iload_n (C : ts_NC p s m args meth c γ A cc own nL ret) {k : Fin 4} {i : Nat} {x : Int32} (hdg : decode cc pc = .ok (.iload_n k, 1)) (hi : (k : Nat) = i) (j : Nat) (hj : lv[j]? = some (i, .int x)) (kk : ts_N p l e R s m args below meth c γ A nL ck sk Q (pc + 1) lv (.int x :: st) ws) : ts_N p l e R s m args below meth c γ A nL ck sk Q pc lv st ws := fun H locs ls hP hD hS hl => lv_iload_n C.1 C.2.1 hdg hi (lv_at hl j hj) (kk H locs ls hP hD hS hl)
theorem tn_iconst (C : ts_NC p s m args meth c γ A cc own nL ret) {n : Int} (hdg : decode cc pc = .ok (.iconst n, 1)) (x : Int) (hx : Int32.ofInt n = ts_I x) (kk : ts_N p l e R s m args below meth c γ A nL ck sk Q (pc + 1) lv (ts_v x :: st) ws) : ts_N p l e R s m args below meth c γ A nL ck sk Q pc lv st ws := fun H locs ls hP hD hS hl => lv_iconst C.1 C.2.1 hdg hx (kk H locs ls hP hD hS hl)
theorem tn_bipush (C : ts_NC p s m args meth c γ A cc own nL ret) {n : Int} (hdg : decode cc pc = .ok (.bipush n, 2)) (x : Int) (hx : (Int8.ofInt n).toInt32 = ts_I x) (kk : ts_N p l e R s m args below meth c γ A nL ck sk Q (pc + 2) lv (ts_v x :: st) ws) : ts_N p l e R s m args below meth c γ A nL ck sk Q pc lv st ws := fun H locs ls hP hD hS hl => lv_bipush C.1 C.2.1 hdg hx (kk H locs ls hP hD hS hl)
theorem tn_sipush (C : ts_NC p s m args meth c γ A cc own nL ret) {n : Int} (hdg : decode cc pc = .ok (.sipush n, 3)) (x : Int) (hx : (Int16.ofInt n).toInt32 = ts_I x) (kk : ts_N p l e R s m args below meth c γ A nL ck sk Q (pc + 3) lv (ts_v x :: st) ws) : ts_N p l e R s m args below meth c γ A nL ck sk Q pc lv st ws := fun H locs ls hP hD hS hl => lv_sipush C.1 C.2.1 hdg hx (kk H locs ls hP hD hS hl)
theorem tn_dup (C : ts_NC p s m args meth c γ A cc own nL ret) {v : Value} (hdg : decode cc pc = .ok (.dup, 1)) (hv : v.category = 1) (kk : ts_N p l e R s m args below meth c γ A nL ck sk Q (pc + 1) lv (v :: v :: st) ws) : ts_N p l e R s m args below meth c γ A nL ck sk Q pc lv (v :: st) ws := fun H locs ls hP hD hS hl => lv_dup C.1 C.2.1 hdg hv (kk H locs ls hP hD hS hl)
theorem tn_goto (C : ts_NC p s m args meth c γ A cc own nL ret) {off : Int} (tgt : Nat) (hdg : decode cc pc = .ok (.goto off, 3)) (ht : (pc : Int) + off = (tgt : Int)) (kk : ts_N p l e R s m args below meth c γ A nL ck sk Q tgt lv st ws) : ts_N p l e R s m args below meth c γ A nL ck sk Q pc lv st ws := fun H locs ls hP hD hS hl => lv_goto C.1 C.2.1 hdg ht (kk H locs ls hP hD hS hl)
theorem tn_icmp_ge (C : ts_NC p s m args meth c γ A cc own nL ret) {x y : Int} {off : Int} (tgt : Nat) (hdg : decode cc pc = .ok (.if_icmp .ge off, 3)) (ht : (pc : Int) + off = (tgt : Int)) (kt : ts_w y ≤ ts_w x → ts_N p l e R s m args below meth c γ A nL ck sk Q tgt lv st ws) (kf : ¬ ts_w y ≤ ts_w x → ts_N p l e R s m args below meth c γ A nL ck sk Q (pc + 3) lv st ws) : ts_N p l e R s m args below meth c γ A nL ck sk Q pc lv (ts_v y :: ts_v x :: st) ws := fun H locs ls hP hD hS hl => lv_icmp_ge C.1 C.2.1 hdg ht (fun q => kt (ts_I_le.mp q) H locs ls hP hD hS hl) (fun q => kf (fun z => q (ts_I_le.mpr z)) H locs ls hP hD hS hl)
theorem tn_iinc (C : ts_NC p s m args meth c γ A cc own nL ret) {i : Nat} {n x0 : Int} (hdg : decode cc pc = .ok (.iinc i n, 3)) (j : Nat) (hj : lv[j]? = some (i, ts_v x0)) (hn : i < nL) {lv' : List (Nat × Value)} (hl' : (i, ts_v (x0 + n)) :: lv.filter (fun q => !(q.1 == i) && !(q.1 + 1 == i && q.2.category == 2)) = lv') (kk : ts_N p l e R s m args below meth c γ A nL ck sk Q (pc + 3) lv' st ws) : ts_N p l e R s m args below meth c γ A nL ck sk Q pc lv st ws := fun H locs ls hP hD hS hl => lv_iinc C.1 C.2.1 hdg hl hj (show ts_I x0 + Int32.ofInt n = ts_I (x0 + n) from (Int32.ofInt_add x0 n).symm) hn hl' (fun ls hl => kk H locs ls hP hD hS hl)
theorem tn_istore_n (C : ts_NC p s m args meth c γ A cc own nL ret) {k : Fin 4} {i : Nat} {x : Int32} (hdg : decode cc pc = .ok (.istore_n k, 1)) (hi : (k : Nat) = i) (hn : i < nL) {lv' : List (Nat × Value)} (hl' : (i, .int x) :: lv.filter (fun q => !(q.1 == i) && !(q.1 + 1 == i && q.2.category == 2)) = lv') (kk : ts_N p l e R s m args below meth c γ A nL ck sk Q (pc + 1) lv' st ws) : ts_N p l e R s m args below meth c γ A nL ck sk Q pc lv (.int x :: st) ws := fun H locs ls hP hD hS hl => lv_istore_n C.1 C.2.1 hdg hi hl hn hl' (fun ls hl => kk H locs ls hP hD hS hl)
theorem tn_istore (C : ts_NC p s m args meth c γ A cc own nL ret) {i : Nat} {x : Int32} (hdg : decode cc pc = .ok (.istore i, 2)) (hn : i < nL) {lv' : List (Nat × Value)} (hl' : (i, .int x) :: lv.filter (fun q => !(q.1 == i) && !(q.1 + 1 == i && q.2.category == 2)) = lv') (kk : ts_N p l e R s m args below meth c γ A nL ck sk Q (pc + 2) lv' st ws) : ts_N p l e R s m args below meth c γ A nL ck sk Q pc lv (.int x :: st) ws := fun H locs ls hP hD hS hl => lv_istore C.1 C.2.1 hdg hl hn hl' (fun ls hl => kk H locs ls hP hD hS hl)
theorem tn_astore_n (C : ts_NC p s m args meth c γ A cc own nL ret) {k : Fin 4} {i x : Nat} (hdg : decode cc pc = .ok (.astore_n k, 1)) (hi : (k : Nat) = i) (hn : i < nL) {lv' : List (Nat × Value)} (hl' : (i, .ref x) :: lv.filter (fun q => !(q.1 == i) && !(q.1 + 1 == i && q.2.category == 2)) = lv') (kk : ts_N p l e R s m args below meth c γ A nL ck sk Q (pc + 1) lv' st ws) : ts_N p l e R s m args below meth c γ A nL ck sk Q pc lv (.ref x :: st) ws := fun H locs ls hP hD hS hl => lv_astore_n C.1 C.2.1 hdg hi hl hn hl' (fun ls hl => kk H locs ls hP hD hS hl)
theorem tn_astore (C : ts_NC p s m args meth c γ A cc own nL ret) {i x : Nat} (hdg : decode cc pc = .ok (.astore i, 2)) (hn : i < nL) {lv' : List (Nat × Value)} (hl' : (i, .ref x) :: lv.filter (fun q => !(q.1 == i) && !(q.1 + 1 == i && q.2.category == 2)) = lv') (kk : ts_N p l e R s m args below meth c γ A nL ck sk Q (pc + 2) lv' st ws) : ts_N p l e R s m args below meth c γ A nL ck sk Q pc lv (.ref x :: st) ws := fun H locs ls hP hD hS hl => lv_astore C.1 C.2.1 hdg hl hn hl' (fun ls hl => kk H locs ls hP hD hS hl)
theorem tn_obj (C : ts_NC p s m args meth c γ A cc own nL ret) {a : Nat} (hw : Cond.methodLink own index Lib.objectInit ∈ lw_good) (hw1 : Cond.instanceMethod Lib.objectInit ∈ lw_good) (hw2 : Cond.code Lib.objectInit ⟨#[0xb1]⟩ 1 none ∈ lw_good) (hrm : (st.map fun v => v.category).sum ≤ 8) (hR : 1 ≤ R.frames ∧ 20 ≤ R.locals) (hdg : decode cc pc = .ok (.invokespecial index, 3)) (kk : ts_N p l e R s m args below meth c γ A nL ck sk Q (pc + 3) lv st ws) : ts_N p l e R s m args below meth c γ A nL ck sk Q pc lv (.ref a :: st) ws := fun H locs ls hP hD hS hl =>
  W.objInit C.1 C.2.1 C.2.2.2.1 (C.2.2.2.2.1 _ hw) (C.2.2.2.2.1 _ hw1) (C.2.2.2.2.1 _ hw2) rfl (by rw [C.2.2.1]; exact hl.1) rfl hdg hR.1 (Nat.le_trans (Nat.add_le_add_right (lv_room hrm) 12) hR.2) (kk H locs ls hP hD hS hl)
theorem tn_new (C : ts_NC p s m args meth c γ A cc own nL ret) {Cn : String} {T : u_T} {Nn ci : Nat} (hc : vwCl[ci]? = some (Cn, T, Nn)) (hin : ∀ w ∈ u_ws Cn T Nn, w ∈ lw_good) (ty : Nat → FieldType) (hty : ∀ k, k < Nn → parseFieldDescriptor (T k).2.2.1 = some (ty k)) {fs : List Value} (hfs : ∀ j, j < Nn → defaultValue (ty j) = vp_V fs j) (hw1 : Cond.classLink own index Cn ∈ lw_good) (hw2 : Cond.instantiable Cn Nn ∈ lw_good) (hw3 : Cond.initialized Cn ∈ lw_good) (hf : ck + 1 ≤ R.cells ∧ sk + Nn ≤ R.slots) (hdg : decode cc pc = .ok (.new index, 3))
    (kk : ∀ q : Nat, ts_N p l e R s m args below meth c γ A nL (ck + 1) (sk + Nn) Q (pc + 3) lv (.ref q :: st) (ws ++ [(q, .inr (ci, fs))])) : ts_N p l e R s m args below meth c γ A nL ck sk Q pc lv st ws := fun H locs ls hP hD hS hl =>
  va_new C.1 C.2.1 C.2.2.2.2.1 hin ty hty C.2.2.2.1 (C.2.2.2.2.1 _ hw1) (C.2.2.2.2.1 _ hw2) (C.2.2.2.2.1 _ hw3) C.2.2.2.2.2.2.2.1 hP hD hS C.2.2.2.2.2.2.2.2.2.2 hc hfs hf.1 hf.2 hdg (fun q H1 hP1 hD1 hS1 => kk q H1 locs ls hP1 hD1 hS1 hl)
theorem tn_newa_int (C : ts_NC p s m args meth c γ A cc own nL ret) {x : Int} (n : Nat) (hx : ts_w x = (n : Int)) (hn : n ≤ 2000) (hw : Cond.arrayClass .int ∈ lw_good) (hf : ck + 1 ≤ R.cells ∧ sk + n ≤ R.slots) (hdg : decode cc pc = .ok (.newarray .int, 2))
    (kk : ∀ q : Nat, ts_N p l e R s m args below meth c γ A nL (ck + 1) (sk + n) Q (pc + 2) lv (.ref q :: st) (ws ++ [(q, .inl (γ.2 0, n, .inl (fun _ => ts_I 0)))])) : ts_N p l e R s m args below meth c γ A nL ck sk Q pc lv (ts_v x :: st) ws := fun H locs ls hP hD hS hl => by
  have hn0 : ¬ ts_I x < 0 := fun q => by have := ts_I_lt0.mp q; omega
  have he : (((ts_I x).toNatClampNeg : Nat) : Int) = ts_w x := Int.toNat_of_nonneg (show 0 ≤ ts_w x by omega)
  refine va_newa (atype := .int) (a0 := (n, .inl (fun _ => ts_I 0))) C.1 C.2.1 (C.2.2.2.2.1 _ hw) rfl C.2.2.2.2.2.2.2.1 hP hD hS C.2.2.2.2.2.2.2.2.2.2 (fun cA => rfl) hn0 (by omega) (by show _ * 4 ≤ _; omega) hf.1 hf.2 hdg (fun q cA H1 hK1 hP1 hD1 hS1 => ?_)
  have hc : cA = γ.2 0 := by
    have k1 := (hK1.2 7 (cA, .int) rfl).2
    have k2 := (C.2.2.2.2.2.2.2.1.2 0 (γ.2 0, .int) rfl).2
    exact Option.some.inj ((show s.vm.findClass _ = some cA from k1).symm.trans k2)
  subst hc
  exact kk q H1 locs ls hP1 hD1 hS1 hl
theorem tn_newa_long (C : ts_NC p s m args meth c γ A cc own nL ret) {x : Int} (n : Nat) (hx : ts_w x = (n : Int)) (hn : n ≤ 2000) (hw : Cond.arrayClass .long ∈ lw_good) (hf : ck + 1 ≤ R.cells ∧ sk + n ≤ R.slots) (hdg : decode cc pc = .ok (.newarray .long, 2))
    (kk : ∀ q : Nat, ts_N p l e R s m args below meth c γ A nL (ck + 1) (sk + n) Q (pc + 2) lv (.ref q :: st) (ws ++ [(q, .inl (γ.2 1, n, .inr (.inl (fun _ => 0))))])) : ts_N p l e R s m args below meth c γ A nL ck sk Q pc lv (ts_v x :: st) ws := fun H locs ls hP hD hS hl => by
  have hn0 : ¬ ts_I x < 0 := fun q => by have := ts_I_lt0.mp q; omega
  have he : (((ts_I x).toNatClampNeg : Nat) : Int) = ts_w x := Int.toNat_of_nonneg (show 0 ≤ ts_w x by omega)
  refine va_newa (atype := .long) (a0 := (n, .inr (.inl (fun _ => 0)))) C.1 C.2.1 (C.2.2.2.2.1 _ hw) rfl C.2.2.2.2.2.2.2.1 hP hD hS C.2.2.2.2.2.2.2.2.2.2 (fun cA => rfl) hn0 (by omega) (by show _ * 8 ≤ _; omega) hf.1 hf.2 hdg (fun q cA H1 hK1 hP1 hD1 hS1 => ?_)
  have hc : cA = γ.2 1 := by
    have k1 := (hK1.2 7 (cA, .long) rfl).2
    have k2 := (C.2.2.2.2.2.2.2.1.2 1 (γ.2 1, .long) rfl).2
    exact Option.some.inj ((show s.vm.findClass _ = some cA from k1).symm.trans k2)
  subst hc
  exact kk q H1 locs ls hP1 hD1 hS1 hl
theorem tn_newa_char (C : ts_NC p s m args meth c γ A cc own nL ret) {x : Int} (n : Nat) (hx : ts_w x = (n : Int)) (hn : n ≤ 2000) (hw : Cond.arrayClass .char ∈ lw_good) (hf : ck + 1 ≤ R.cells ∧ sk + n ≤ R.slots) (hdg : decode cc pc = .ok (.newarray .char, 2))
    (kk : ∀ q : Nat, ts_N p l e R s m args below meth c γ A nL (ck + 1) (sk + n) Q (pc + 2) lv (.ref q :: st) (ws ++ [(q, .inl (γ.2 2, n, .inl (fun _ => ts_I 0)))])) : ts_N p l e R s m args below meth c γ A nL ck sk Q pc lv (ts_v x :: st) ws := fun H locs ls hP hD hS hl => by
  have hn0 : ¬ ts_I x < 0 := fun q => by have := ts_I_lt0.mp q; omega
  have he : (((ts_I x).toNatClampNeg : Nat) : Int) = ts_w x := Int.toNat_of_nonneg (show 0 ≤ ts_w x by omega)
  refine va_newa (atype := .char) (a0 := (n, .inl (fun _ => ts_I 0))) C.1 C.2.1 (C.2.2.2.2.1 _ hw) rfl C.2.2.2.2.2.2.2.1 hP hD hS C.2.2.2.2.2.2.2.2.2.2 (fun cA => rfl) hn0 (by omega) (by show _ * 2 ≤ _; omega) hf.1 hf.2 hdg (fun q cA H1 hK1 hP1 hD1 hS1 => ?_)
  have hc : cA = γ.2 2 := by
    have k1 := (hK1.2 7 (cA, .char) rfl).2
    have k2 := (C.2.2.2.2.2.2.2.1.2 2 (γ.2 2, .char) rfl).2
    exact Option.some.inj ((show s.vm.findClass _ = some cA from k1).symm.trans k2)
  subst hc
  exact kk q H1 locs ls hP1 hD1 hS1 hl
theorem tn_newa_byte (C : ts_NC p s m args meth c γ A cc own nL ret) {x : Int} (n : Nat) (hx : ts_w x = (n : Int)) (hn : n ≤ 2000) (hw : Cond.arrayClass .byte ∈ lw_good) (hf : ck + 1 ≤ R.cells ∧ sk + n ≤ R.slots) (hdg : decode cc pc = .ok (.newarray .byte, 2))
    (kk : ∀ q : Nat, ts_N p l e R s m args below meth c γ A nL (ck + 1) (sk + n) Q (pc + 2) lv (.ref q :: st) (ws ++ [(q, .inl (γ.2 3, n, .inl (fun _ => ts_I 0)))])) : ts_N p l e R s m args below meth c γ A nL ck sk Q pc lv (ts_v x :: st) ws := fun H locs ls hP hD hS hl => by
  have hn0 : ¬ ts_I x < 0 := fun q => by have := ts_I_lt0.mp q; omega
  have he : (((ts_I x).toNatClampNeg : Nat) : Int) = ts_w x := Int.toNat_of_nonneg (show 0 ≤ ts_w x by omega)
  refine va_newa (atype := .byte) (a0 := (n, .inl (fun _ => ts_I 0))) C.1 C.2.1 (C.2.2.2.2.1 _ hw) rfl C.2.2.2.2.2.2.2.1 hP hD hS C.2.2.2.2.2.2.2.2.2.2 (fun cA => rfl) hn0 (by omega) (by show _ * 1 ≤ _; omega) hf.1 hf.2 hdg (fun q cA H1 hK1 hP1 hD1 hS1 => ?_)
  have hc : cA = γ.2 3 := by
    have k1 := (hK1.2 7 (cA, .byte) rfl).2
    have k2 := (C.2.2.2.2.2.2.2.1.2 3 (γ.2 3, .byte) rfl).2
    exact Option.some.inj ((show s.vm.findClass _ = some cA from k1).symm.trans k2)
  subst hc
  exact kk q H1 locs ls hP1 hD1 hS1 hl
theorem tn_newa_double (C : ts_NC p s m args meth c γ A cc own nL ret) {x : Int} (n : Nat) (hx : ts_w x = (n : Int)) (hn : n ≤ 2000) (hw : Cond.arrayClass .double ∈ lw_good) (hf : ck + 1 ≤ R.cells ∧ sk + n ≤ R.slots) (hdg : decode cc pc = .ok (.newarray .double, 2))
    (kk : ∀ q : Nat, ts_N p l e R s m args below meth c γ A nL (ck + 1) (sk + n) Q (pc + 2) lv (.ref q :: st) (ws ++ [(q, .inl (γ.2 4, n, .inr (.inr (.inr (.inl (fun _ => 0))))))])) : ts_N p l e R s m args below meth c γ A nL ck sk Q pc lv (ts_v x :: st) ws := fun H locs ls hP hD hS hl => by
  have hn0 : ¬ ts_I x < 0 := fun q => by have := ts_I_lt0.mp q; omega
  have he : (((ts_I x).toNatClampNeg : Nat) : Int) = ts_w x := Int.toNat_of_nonneg (show 0 ≤ ts_w x by omega)
  refine va_newa (atype := .double) (a0 := (n, .inr (.inr (.inr (.inl (fun _ => 0)))))) C.1 C.2.1 (C.2.2.2.2.1 _ hw) rfl C.2.2.2.2.2.2.2.1 hP hD hS C.2.2.2.2.2.2.2.2.2.2 (fun cA => rfl) hn0 (by omega) (by show _ * 8 ≤ _; omega) hf.1 hf.2 hdg (fun q cA H1 hK1 hP1 hD1 hS1 => ?_)
  have hc : cA = γ.2 4 := by
    have k1 := (hK1.2 7 (cA, .double) rfl).2
    have k2 := (C.2.2.2.2.2.2.2.1.2 4 (γ.2 4, .double) rfl).2
    exact Option.some.inj ((show s.vm.findClass _ = some cA from k1).symm.trans k2)
  subst hc
  exact kk q H1 locs ls hP1 hD1 hS1 hl
theorem tn_newq_State (C : ts_NC p s m args meth c γ A cc own nL ret) {x : Int} (n : Nat) (hx : ts_w x = (n : Int)) (hn : n ≤ 2000) (hw : Cond.classLink own index RX9 ∈ lw_good) (hf : ck + 1 ≤ R.cells ∧ sk + n ≤ R.slots) (hdg : decode cc pc = .ok (.anewarray index, 3))
    (kk : ∀ q : Nat, ts_N p l e R s m args below meth c γ A nL (ck + 1) (sk + n) Q (pc + 3) lv (.ref q :: st) (ws ++ [(q, .inl (γ.2 5, n, .inr (.inr (.inr (.inr (fun _ => none))))))])) : ts_N p l e R s m args below meth c γ A nL ck sk Q pc lv (ts_v x :: st) ws := fun H locs ls hP hD hS hl => by
  have hn0 : ¬ ts_I x < 0 := fun q => by have := ts_I_lt0.mp q; omega
  have he : (((ts_I x).toNatClampNeg : Nat) : Int) = ts_w x := Int.toNat_of_nonneg (show 0 ≤ ts_w x by omega)
  refine va_newq (C := RX9) (N' := n) C.1 C.2.1 C.2.2.2.1 (C.2.2.2.2.1 _ hw) C.2.2.2.2.2.2.2.2.2.1.1 C.2.2.2.2.2.2.2.1 hP hD hS C.2.2.2.2.2.2.2.2.2.2 hn0 (by omega) (by omega) hf.1 hf.2 hdg (fun q cA H1 hK1 hP1 hD1 hS1 => ?_)
  have hc : cA = γ.2 5 := by
    obtain ⟨kA, comp, k1, k2, k3, k4⟩ := (hK1.2 7 (cA, .object RX9) rfl).2
    obtain ⟨kA', comp', k1', k2', k3', k4'⟩ := (C.2.2.2.2.2.2.2.1.2 5 (γ.2 5, .object RX9) rfl).2
    exact Option.some.inj (k4.symm.trans k4')
  subst hc
  exact kk q H1 locs ls hP1 hD1 hS1 hl
theorem tn_newq_Command (C : ts_NC p s m args meth c γ A cc own nL ret) {x : Int} (n : Nat) (hx : ts_w x = (n : Int)) (hn : n ≤ 2000) (hw : Cond.classLink own index RX2 ∈ lw_good) (hf : ck + 1 ≤ R.cells ∧ sk + n ≤ R.slots) (hdg : decode cc pc = .ok (.anewarray index, 3))
    (kk : ∀ q : Nat, ts_N p l e R s m args below meth c γ A nL (ck + 1) (sk + n) Q (pc + 3) lv (.ref q :: st) (ws ++ [(q, .inl (γ.2 6, n, .inr (.inr (.inr (.inr (fun _ => none))))))])) : ts_N p l e R s m args below meth c γ A nL ck sk Q pc lv (ts_v x :: st) ws := fun H locs ls hP hD hS hl => by
  have hn0 : ¬ ts_I x < 0 := fun q => by have := ts_I_lt0.mp q; omega
  have he : (((ts_I x).toNatClampNeg : Nat) : Int) = ts_w x := Int.toNat_of_nonneg (show 0 ≤ ts_w x by omega)
  refine va_newq (C := RX2) (N' := n) C.1 C.2.1 C.2.2.2.1 (C.2.2.2.2.1 _ hw) C.2.2.2.2.2.2.2.2.2.1.2.1 C.2.2.2.2.2.2.2.1 hP hD hS C.2.2.2.2.2.2.2.2.2.2 hn0 (by omega) (by omega) hf.1 hf.2 hdg (fun q cA H1 hK1 hP1 hD1 hS1 => ?_)
  have hc : cA = γ.2 6 := by
    obtain ⟨kA, comp, k1, k2, k3, k4⟩ := (hK1.2 7 (cA, .object RX2) rfl).2
    obtain ⟨kA', comp', k1', k2', k3', k4'⟩ := (C.2.2.2.2.2.2.2.1.2 6 (γ.2 6, .object RX2) rfl).2
    exact Option.some.inj (k4.symm.trans k4')
  subst hc
  exact kk q H1 locs ls hP1 hD1 hS1 hl
theorem tn_put (C : ts_NC p s m args meth c γ A cc own nL ret) {a ci Nn : Nat} {Cn : String} {T : u_T} {fs : List Value} {v : Value} {ty : FieldType} (i k : Nat) (hi : ws[i]? = some (a, .inr (ci, fs))) (hc : vwCl[ci]? = some (Cn, T, Nn)) (hin : ∀ w ∈ u_ws Cn T Nn, w ∈ lw_good) (ty0 : Nat → FieldType) (hty : ∀ k, k < Nn → parseFieldDescriptor (T k).2.2.1 = some (ty0 k)) (hnm : ∀ a, a < Nn → ∀ b, b < Nn → a ≠ b → (T a).2.1 ≠ (T b).2.1) (hk : k < Nn) (hw : Cond.fieldLink own index (T k).1 (T k).2.1 (T k).2.2.1 ∈ lw_good) (hfin : (T k).2.2.2 = false) (hd : parseFieldDescriptor (T k).2.2.1 = some ty) (hn : narrow ty v = v) (hfit : fits ty v = true) (hl0 : k < fs.length) (hdg : decode cc pc = .ok (.putfield index, 3))
    (kk : ts_N p l e R s m args below meth c γ A nL ck sk Q (pc + 3) lv st (ws.set i (a, .inr (ci, fs.set k v)))) : ts_N p l e R s m args below meth c γ A nL ck sk Q pc lv (v :: .ref a :: st) ws := fun H locs ls hP hD hS hl =>
  va_put C.1 C.2.1 C.2.2.2.2.1 hin ty0 hty hnm C.2.2.2.1 C.2.2.2.2.2.2.2.1 hP hD hS i hi hc k hk (C.2.2.2.2.1 _ hw) (fun _ q => q) hfin hd hn hfit hl0 hdg (fun H1 locs1 hP1 hD1 hS1 => kk H1 locs1 ls hP1 hD1 hS1 hl)
theorem tn_putF (C : ts_NC p s m args meth c γ A cc own nL ret) (hin2 : meth.name = "<init>") {a ci Nn : Nat} {Cn : String} {T : u_T} {fs : List Value} {v : Value} {ty : FieldType} (i k : Nat) (hi : ws[i]? = some (a, .inr (ci, fs))) (hc : vwCl[ci]? = some (Cn, T, Nn)) (hin : ∀ w ∈ u_ws Cn T Nn, w ∈ lw_good) (ty0 : Nat → FieldType) (hty : ∀ k, k < Nn → parseFieldDescriptor (T k).2.2.1 = some (ty0 k)) (hnm : ∀ a, a < Nn → ∀ b, b < Nn → a ≠ b → (T a).2.1 ≠ (T b).2.1) (hk : k < Nn) (hw : Cond.fieldLink own index (T k).1 (T k).2.1 (T k).2.2.1 ∈ lw_good) (hfin : (T k).2.2.2 = true) (hdecl : (T k).1 = own) (hd : parseFieldDescriptor (T k).2.2.1 = some ty) (hn : narrow ty v = v) (hfit : fits ty v = true) (hl0 : k < fs.length) (hdg : decode cc pc = .ok (.putfield index, 3))
    (kk : ts_N p l e R s m args below meth c γ A nL ck sk Q (pc + 3) lv st (ws.set i (a, .inr (ci, fs.set k v)))) : ts_N p l e R s m args below meth c γ A nL ck sk Q pc lv (v :: .ref a :: st) ws := fun H locs ls hP hD hS hl =>
  va_putF C.1 C.2.1 C.2.2.2.2.1 hin ty0 hty hnm C.2.2.2.1 C.2.2.2.2.2.2.2.1 hP hD hS i hi hc k hk (C.2.2.2.2.1 _ hw) (fun _ q => q) hfin hin2 hdecl hd hn hfit hl0 hdg (fun H1 locs1 hP1 hD1 hS1 => kk H1 locs1 ls hP1 hD1 hS1 hl)
theorem tn_get (C : ts_NC p s m args meth c γ A cc own nL ret) {a ci Nn : Nat} {Cn : String} {T : u_T} {fs : List Value} {v : Value} (i k : Nat) (hi : ws[i]? = some (a, .inr (ci, fs))) (hc : vwCl[ci]? = some (Cn, T, Nn)) (hin : ∀ w ∈ u_ws Cn T Nn, w ∈ lw_good) (hk : k < Nn) (hw : Cond.fieldLink own index (T k).1 (T k).2.1 (T k).2.2.1 ∈ lw_good) (hv : fs[k]? = some v) (hdg : decode cc pc = .ok (.getfield index, 3))
    (kk : ts_N p l e R s m args below meth c γ A nL ck sk Q (pc + 3) lv (v :: st) ws) : ts_N p l e R s m args below meth c γ A nL ck sk Q pc lv (.ref a :: st) ws := fun H locs ls hP hD hS hl =>
  va_get C.1 C.2.1 C.2.2.2.2.1 hin C.2.2.2.1 C.2.2.2.2.2.2.2.1 hP i hi hc k hk (C.2.2.2.2.1 _ hw) (fun _ q => q) hv hdg (kk H locs ls hP hD hS hl)
theorem tn_aast (C : ts_NC p s m args meth c γ A cc own nL ret) {a q n : Nat} {vs : List Value} {f : Nat → Option Nat} {x : Int} (i qk : Nat) (ha : ws[i]? = some (a, .inl (γ.2 5, n, .inr (.inr (.inr (.inr f)))))) (hv : ws[qk]? = some (q, .inr (10, vs))) (hx : 0 ≤ ts_w x ∧ ts_w x < (n : Int)) (hdg : decode cc pc = .ok (.aastore, 1))
    (kk : ts_N p l e R s m args below meth c γ A nL ck sk Q (pc + 1) lv st (ws.set i (a, .inl (γ.2 5, n, .inr (.inr (.inr (.inr (va_up f (ts_w x).toNat (some q)))))))) ) : ts_N p l e R s m args below meth c γ A nL ck sk Q pc lv (.ref q :: ts_v x :: .ref a :: st) ws := fun H locs ls hP hD hS hl => by
  have hi := ts_ix hx
  have e : (ts_I x).toNatClampNeg = (ts_w x).toNat := by omega
  refine va_astq (r := (RX9, TX9, 9)) C.1 C.2.1 C.2.2.2.2.2.2.2.1 hP hD hS i 5 qk 10 ha rfl hv rfl hi.1 hdg (fun H1 locs1 hP1 hD1 hS1 => ?_)
  rw [e] at hP1 hD1
  exact kk H1 locs1 ls hP1 hD1 hS1 hl
theorem ts_hA1 (C : ts_NC p s m args meth c γ A cc own nL ret) {a : Nat} {e0 : va_E} {w0 : va_W} {H : Heap} {locs : List Loc} (hD : va_D A (w0 ++ [(a, e0)])) (hS : va_S A s.heap H locs) : ∀ z, va_A [(a, e0)] H.size z → A z := fun z h => by
  have hla : (w0 ++ [(a, e0)])[w0.length]? = some (a, e0) := by rw [List.getElem?_append_right (Nat.le_refl _), Nat.sub_self]; rfl
  rcases h with ⟨k2, e2, h⟩ | h
  · have h9 : k2 < 1 := (List.getElem?_eq_some_iff.mp h).1
    rw [show k2 = 0 by omega] at h
    have hz1 : z = a := (congrArg Prod.fst (Option.some.inj h)).symm
    rw [hz1]
    exact hD.2 w0.length (a, e0) hla
  · exact C.2.2.2.2.2.2.2.2.2.2 z (Nat.le_trans hS.1 h)
/-- a call of a constructor on the world's last cell -/
theorem tn_after {y : MethodName} {a : Nat} {e0 : va_E} {Post : va_W → Prop} {mc ms : Nat} {As stk : List Value} (C : ts_NC p s m args meth c γ A cc own nL ret) {w0 : va_W}
    (hrun : ∀ (H : Heap) (locs : List Loc) (ls : Array Slot), va_P γ.1 vwCl (w0 ++ [(a, e0)]) H → va_D A (w0 ++ [(a, e0)]) → va_S A s.heap H locs → lv_has ls nL lv → va_Run p l e R s m args below meth c H locs ck sk mc ms (F0 m pc ls stk) st (ts_NQ γ a e0 H.size Post (Value.ref a :: As).toArray) (va_A [(a, e0)] H.size))
    (kk : ∀ w1, Post w1 → ts_N p l e R s m args below meth c γ A nL (ck + mc) (sk + ms) Q (pc + 3) lv st (w0 ++ w1)) : ts_N p l e R s m args below meth c γ A nL ck sk Q pc lv stk (w0 ++ [(a, e0)]) := by
  intro H locs ls hP hD hS hl T hT Y
  obtain ⟨v, st0, t, T2, L, h0, Y2, hL, e1, e2, ⟨w1, hv, hq, hP1, hD1, hz, hF⟩, go⟩ := hrun H locs ls hP hD hS hl T hT Y
  cases hv
  rw [h0] at hz hF
  have hA1 := ts_hA1 C hD hS
  rw [← e1] at hP1 hF hz
  obtain ⟨hP2, hD2⟩ := ts_join1 hP hD hF hA1 hP1 hD1
  have hS2 : va_S A s.heap T2.heap (locs ++ L) := ⟨Nat.le_trans hS.1 hz, fun q h1 h2 => by rw [hF q (Nat.lt_of_lt_of_le h1 hS.1) (fun z => h2 (hA1 q z))]; exact hS.2.1 q h1 h2, fun q hq9 => by
    rcases List.mem_append.mp hq9 with h | h
    · exact hS.2.2 q h
    · exact hA1 _ (hL q h)⟩
  obtain ⟨t2, a1, b1⟩ := kk w1 hq T2.heap (locs ++ L) ls hP2 hD2 hS2 hl T2 rfl Y2
  exact ⟨t2, go t2 a1, b1⟩
theorem ts_Nat.mk (C : ts_NC p s m args meth c γ A cc own nL ret) {a : Nat} {e0 : va_E} {w0 : va_W} {H : Heap} {locs : List Loc} {U : State} (hP : va_P γ.1 vwCl (w0 ++ [(a, e0)]) H) (hD : va_D A (w0 ++ [(a, e0)])) (hS : va_S A s.heap H locs) (hU : U.heap = H) (hW : s.WarmedH U.vm) : ts_Nat γ a e0 H.size U := by
  subst hU
  refine ⟨fun k q hq => ?_, C.2.2.2.2.2.2.2.1.moved hW.alike, fun w hw => ts_nw_warm (ts_nw_k w hw) hW (C.2.2.2.2.2.2.2.2.1 w hw), ⟨va_AO.moved hW.alike C.2.2.2.2.2.2.2.2.2.1.1, va_AO.moved hW.alike C.2.2.2.2.2.2.2.2.2.1.2.1, (((C.2.2.2.2.2.2.2.2.2.1.2.2).kept hS.2.1).narrow (ts_hA1 C hD hS)).moved hW.alike⟩, rfl⟩
  have h9 : k < 1 := (List.getElem?_eq_some_iff.mp hq).1
  rw [show k = 0 by omega] at hq
  cases hq
  exact hP w0.length (a, e0) (by rw [List.getElem?_append_right (Nat.le_refl _), Nat.sub_self]; rfl)
def ts_Yc (y : MethodName) (bytes : ByteArray) (maxL n : Nat) : Prop :=
  Cond.instanceMethod y ∈ lw_good ∧ Cond.initialized y.cls ∈ lw_good ∧ Cond.code y bytes maxL none ∈ lw_good ∧ (y.cls ≠ "java/lang/invoke/MethodHandle" ∧ y.cls ≠ "java/lang/invoke/VarHandle") ∧ (parseMethodDescriptor y.desc).map (fun d => d.parameters.length) = some n ∧ y.name = "<init>"
theorem tn_ctor {y : MethodName} {bytes : ByteArray} {maxL d mc ms a n : Nat} {e0 : va_E} {Post : va_W → Prop} {w0 : va_W} {stk : List Value} (C : ts_NC p s m args meth c γ A cc own nL ret) (As : List Value) (hcon : ts_ConN l γ y bytes maxL d mc ms a As e0 Post) (hy : ts_Yc y bytes maxL n) (hn : As.length = n) (hstk : stk = As.reverse ++ .ref a :: st) (hw : Cond.methodLink own index y ∈ lw_good) (hrm : (st.map fun v => v.category).sum ≤ 8) (hR : d + 1 ≤ R.frames ∧ 8 + (maxL + 11) + 40 * d ≤ R.locals) (hf : ck + mc ≤ R.cells ∧ sk + ms ≤ R.slots) (hdg : decode cc pc = .ok (.invokespecial index, 3))
    (kk : ∀ w1, Post w1 → ts_N p l e R s m args below meth c γ A nL (ck + mc) (sk + ms) Q (pc + 3) lv st (w0 ++ w1)) : ts_N p l e R s m args below meth c γ A nL ck sk Q pc lv stk (w0 ++ [(a, e0)]) := by
  obtain ⟨h0, h2, h3, h4, h5, h6⟩ := hy
  have hts := C.2.2.2.2.1
  refine tn_after (As := As) (y := y) (a := a) (e0 := e0) (Post := Post) (mc := mc) (ms := ms) C (fun H locs ls hP hD hS hl => ?_) kk
  exact va_runI (As := As) (n := n) ⟨C.1, C.2.1, C.2.2.1, C.2.2.2.1, hts⟩ (hcon H.size) ⟨ts_cw hts h2 h3 h4 h5 hw hR, h6, hts _ h0⟩ ⟨ts_Nat_blind, fun U hU hW => ⟨rfl, ts_Nat.mk C hP hD hS hU hW⟩⟩ rfl hn hl.1 hstk (lv_room hrm) hdg hf
theorem tn_ctorN {y : MethodName} {bytes : ByteArray} {maxL d mc ms a : Nat} {e0 : va_E} {Post : va_W → Prop} {w0 : va_W} {host : String} (C : ts_NC p s m args meth c γ A cc own nL ret) (hcon : ts_ConN l γ y bytes maxL d mc ms a [] e0 Post) (hy : ts_Yc y bytes maxL 0) (hw : Cond.methodLinkNest own index y host ∈ ts_nw) (hrm : (st.map fun v => v.category).sum ≤ 8) (hR : d + 1 ≤ R.frames ∧ 8 + (maxL + 11) + 40 * d ≤ R.locals) (hf : ck + mc ≤ R.cells ∧ sk + ms ≤ R.slots) (hdg : decode cc pc = .ok (.invokespecial index, 3))
    (kk : ∀ w1, Post w1 → ts_N p l e R s m args below meth c γ A nL (ck + mc) (sk + ms) Q (pc + 3) lv st (w0 ++ w1)) : ts_N p l e R s m args below meth c γ A nL ck sk Q pc lv (.ref a :: st) (w0 ++ [(a, e0)]) := by
  obtain ⟨h0, h2, h3, h4, h5, h6⟩ := hy
  have hts := C.2.2.2.2.1
  refine tn_after (As := []) (y := y) (a := a) (e0 := e0) (Post := Post) (mc := mc) (ms := ms) C (fun H locs ls hP hD hS hl => ?_) kk
  exact va_runIN (As := []) (n := 0) (host := host) ⟨C.1, C.2.1, C.2.2.1, C.2.2.2.1, hts⟩ (hcon H.size) ⟨⟨⟨rfl, rfl, hR.1, hR.2, ts_pays h3 hts, List.mem_cons_self⟩, hts _ h3, hts _ h2, h4, ts_sig h5, va_Nw.use rfl (C.2.2.2.2.2.2.2.2.1 _ hw)⟩, h6, hts _ h0⟩ ⟨ts_Nat_blind, fun U hU hW => ⟨rfl, ts_Nat.mk C hP hD hS hU hW⟩⟩ rfl rfl hl.1 rfl (lv_room hrm) hdg hf
theorem tn_getCS (C : ts_NC p s m args meth c γ A cc own nL ret) (hw : Cond.fieldLink own index RJ0 "COMPACT_STRINGS" "Z" ∈ lw_good) (hdg : decode cc pc = .ok (.getstatic index, 3)) (kk : ts_N p l e R s m args below meth c γ A nL ck sk Q (pc + 3) lv (ts_v 1 :: st) ws) : ts_N p l e R s m args below meth c γ A nL ck sk Q pc lv st ws := fun H locs ls hP hD hS hl =>
  va_gets C.1 C.2.1 C.2.2.2.2.2.2.2.2.2.1.2.2 hS C.2.2.2.1 (C.2.2.2.2.1 _ hw) (fun _ q => q) hdg (kk H locs ls hP hD hS hl)
theorem tn_ifeq0 (C : ts_NC p s m args meth c γ A cc own nL ret) {x : Int} {off : Int} (hx : ¬ ts_w x = 0) (tgt : Nat) (hdg : decode cc pc = .ok (.ifCond .eq off, 3)) (ht : (pc : Int) + off = (tgt : Int)) (kk : ts_N p l e R s m args below meth c γ A nL ck sk Q (pc + 3) lv st ws) : ts_N p l e R s m args below meth c γ A nL ck sk Q pc lv (ts_v x :: st) ws := fun H locs ls hP hD hS hl =>
  lv_if_eq C.1 C.2.1 hdg ht (fun q => absurd (ts_I_eq0.mp q) hx) (fun _ => (kk H locs ls hP hD hS hl))
theorem tn_ret {a sz mc ms : Nat} {e0 : va_E} {Post : va_W → Prop} (C : ts_NC p s m args meth c γ (va_A [(a, e0)] sz) cc own nL none) (hc : ck ≤ mc) (hs : sk ≤ ms) (hdg : decode cc pc = .ok (.return_, 1)) (h : Post ws) : ts_N p l e R s m args below meth c γ (va_A [(a, e0)] sz) nL ck sk (MQ below (ts_NQ γ a e0 sz Post) args s mc ms (va_A [(a, e0)] sz)) pc lv [] ws := fun H locs ls hP hD hS hl => by
  have hlocks : meth.locks = false := C.2.2.2.2.2.2.1
  exact W.widen hc hs (W.vret C.1 C.2.1 C.2.2.2.2.2.1 (fun t ht hW => ⟨ws, rfl, h, by rw [ht]; exact hP, hD, hS.F ht⟩) hS.2.2 hdg)
theorem tn_cv {ws : va_W} (ws1 : va_W) (h : ws = ws1) (kk : ts_N p l e R s m args below meth c γ A nL ck sk Q pc lv st ws1) : ts_N p l e R s m args below meth c γ A nL ck sk Q pc lv st ws := h ▸ kk
end TSNR
