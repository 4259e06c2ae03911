/-- a contract of a method with handlers, that returns -/
def ts_ConW (l : Launch) (g : ts_W) (y : MethodName) (cc : ByteArray) (maxL : Nat) (ret : Option FieldType) (hh : List (Nat × Nat × Nat × Nat)) (d mc ms : Nat) (av : List Value) (M : ts_M) (Qr : Option Value → ts_M → Prop) : Prop :=
  Met l y (.codeWith y cc maxL ret hh :: lw_good) (ts_rm d mc ms) (va_Pc av (ts_At g M)) (ts_Q g Qr) mc ms (ts_A g)
/-- the table of a frame -/
def ts_T (c : Code) (hh : List (Nat × Nat × Nat × Nat)) : Prop := c.exceptionTable.toList.map (fun h => (h.startPc, h.endPc, h.handlerPc, h.catchType)) = hh
/-- what is thrown at pc as an E goes to hp -/
def ts_hd (own : String) (hh : List (Nat × Nat × Nat × Nat)) (pc : Nat) (E : String) (hp : Nat) : Prop :=
  ∃ (pre suf : List (Nat × Nat × Nat × Nat)) (a b ct : Nat), hh = pre ++ (a, b, hp, ct) :: suf ∧ a ≤ pc ∧ pc < b ∧ ct ≠ 0 ∧ Cond.classLink own ct E ∈ lw_good ∧ Cond.castable E E ∈ ts_nw ∧ ∀ z ∈ pre, z.2.2.2 ≠ 0 ∧ ∃ nm : String, Cond.classLink own z.2.2.2 nm ∈ lw_good ∧ (E, nm) ∈ ts_nc
def ts_Yw (y : MethodName) (bytes : ByteArray) (maxL : Nat) (rt : Option FieldType) (hh : List (Nat × Nat × Nat × Nat)) (n : Nat) : Prop :=
  Cond.static y ∈ lw_good ∧ Cond.initialized y.cls ∈ lw_good ∧ Cond.codeWith y bytes maxL rt hh ∈ lw_good ∧ (y.cls ≠ "java/lang/invoke/MethodHandle" ∧ y.cls ≠ "java/lang/invoke/VarHandle") ∧ (parseMethodDescriptor y.desc).map (fun d => d.parameters.length) = some n
section TSLW
variable {p : Program} {l : Launch} {e : Env} {R : Room} {s : State} {m : MethodId} {args : Array Value} {below : List Frame} {meth : Method} {c : Code} {Q : State → Prop}
variable {g : ts_W} {cc : ByteArray} {own : String} {nL ck sk : Nat} {ret : Option FieldType} {P P2 : Prop} {pc : Nat} {lv : List (Nat × Value)} {st : List Value} {M : ts_M} {index : Nat}
theorem ts_ConW.of {y : MethodName} {cc : ByteArray} {maxL : Nat} {ret : Option FieldType} {hh : List (Nat × Nat × Nat × Nat)} {d mc ms : Nat} {av : List Value} {M : ts_M} {Qr : Option Value → ts_M → Prop} (hl : l.stackTraces = false) (hy : plainName y.cls = true) (hn : (lg_sl av).length ≤ maxL)
    (body : ∀ p e s m args below meth c, ts_T c hh → ts_C p l s m args meth c g cc y.cls maxL ret → ts_V p l e (ts_rm d mc ms) s m args below meth c g maxL 0 0 (MQ below (ts_Q g Qr) args s mc ms (ts_A g)) 0 (lv_args 0 av) [] M) : ts_ConW l g y cc maxL ret hh d mc ms av M Qr := by
  refine va_MetW (cc := cc) (maxL := maxL) (ret := ret) (hh := hh) hy rfl ?_
  intro p e s m args below meth c s₁ B hml hv
  obtain ⟨hv0, ⟨X, hB, hP, hD⟩, hK, hw, hh0, hA⟩ := hv
  have hts := atoms_spec (ws := Cond.codeWith y cc maxL ret hh :: lw_good) B.pre
  have hC : ts_C p l s m args meth c g cc y.cls maxL ret := ⟨B.exec, B.bytes, hml, findClass_of_methodNamed B.named, fun w h => hts w (List.mem_cons_of_mem _ h), B.returns, B.notSynchronized, hK, hw, hh0, hA, hl⟩
  have hT : ts_T c hh := by
    obtain ⟨m9, meth9, c9, hn9, h1, h2, -, -, h6, -⟩ := Cond.codeWith_spec (hts _ List.mem_cons_self)
    cases Option.some.inj (hn9.symm.trans B.named)
    cases Option.some.inj (h1.symm.trans B.method)
    cases Option.some.inj (h2.symm.trans (Stand.of_body B).code)
    exact h6
  subst hv0
  have hl0 := lv_entry av (n := maxL) hn
  rw [lg_entry_eq]
  exact body p e s m _ below meth c hT hC X s.heap [] _ hB hP hD va_S.rf hl0
theorem ts_catchV {Pw : Prop} {Qr : Option Value → ts_M → Prop} {Qx : String → ts_M → Prop} {hh : List (Nat × Nat × Nat × Nat)} {y : MethodName} {bytes : ByteArray} {maxL : Nat} {rt : Option FieldType} {d mc ms n a ci N : Nat} {T : u_T} {F : (Int → Int) → (Int → Int64) → (Int → UInt64) → List Value} {stk : List Value} (C : ts_C p l s m args meth c g cc own nL ret) (hT : ts_T c hh) (As : List Value)
    (hcon : Pw → ts_ConX l g y bytes maxL rt d mc ms (.ref (ts_ad g a) :: As) M Qr Qx) (hy : ts_Yv y bytes maxL rt n) (hw : Cond.methodLink own index y ∈ lw_good) (ha : a < 177) (hG : ts_O g a ci F) (hc : vwCl[ci]? = some (y.cls, T, N)) (hn : As.length = n) (hstk : stk = As.reverse ++ .ref (ts_ad g a) :: st) (hrm : (st.map fun v => v.category).sum ≤ 8) (hR : d + 1 ≤ R.frames ∧ 8 + (maxL + 11) + 40 * d ≤ R.locals) (hf : ck + mc ≤ R.cells ∧ sk + ms ≤ R.slots) (hdg : decode cc pc = .ok (.invokevirtual index, 3))
    (kx : ∀ (E : String) (M1 : ts_M), Qx E M1 → ∃ hp : Nat, ts_hd own hh pc E hp ∧ ∀ q : Nat, ts_V p l e R s m args below meth c g nL (ck + mc) (sk + ms) Q hp lv [.ref q] M1)
    (kk : ∀ (v : Option Value) (M1 : ts_M), Qr v M1 → ts_V p l e R s m args below meth c g nL (ck + mc) (sk + ms) Q (pc + 3) lv (v.toList ++ st) M1) : Pw → ts_V p l e R s m args below meth c g nL ck sk Q pc lv stk M := fun h => by
  obtain ⟨h0, h1, h2, h3, h4, h5⟩ := hy
  have hts := C.2.2.2.2.1
  intro X H locs ls hB hP hD hS hl T hT0 Y
  have he : (ts_ws g M ++ X)[a]? = some (ts_ad g a, .inr (ci, F (M.1 a) (M.2.1 a) (M.2.2 a))) := by rw [ts_ws_get g M X ha, hG]
  have hrun := vx_runV (p := p) (e := e) (R := R) (below := below) (meth := meth) (H := H) (locs := locs) (cells := ck) (slots := sk) (rest := st) (g := F0 m pc ls stk) ⟨C.1, C.2.1, C.2.2.1, C.2.2.2.1, hts⟩ (hcon h) ⟨ts_cw hts h2 h3 h4 h5 hw hR, hts _ h0, hts _ h1⟩ ⟨ts_blind, va_recv C.2.2.2.2.2.2.2.1 hP hc he, fun U hU hW => ⟨rfl, ts_At.mk C.2.2.2.2.2.2.2.1 C.2.2.2.2.2.2.2.2.1 C.2.2.2.2.2.2.2.2.2.1 C.2.2.2.2.2.2.2.2.2.2.1 hB hP hD hS hU hW⟩⟩ rfl hn hl.1 hstk (lv_room hrm) hdg hf
  rcases hrun T hT0 Y with ⟨v, st0, t, T2, L, g0, Y2, hL, e1, e2, ⟨v', M1, hv, hq, hat, hF⟩, go⟩ | ⟨q, st0, t, T2, L, E, ce, g0, Y2, hL, e1, e2, ⟨M1, hq, ⟨X1, hB1, hP1, hD1⟩, hF⟩, hce, hcv, hcl, go⟩
  · cases hv
    obtain ⟨⟨X1, hB1, hP1, hD1⟩, -, -, -, -⟩ := hat
    obtain ⟨-, -, hS1⟩ := vx_keep g0 e1 hS (fun _ _ h => h) (fun _ h => h) hL hF
    rw [← e1] at hP1
    obtain ⟨t2, a1, b1⟩ := kk v M1 hq X1 T2.heap (locs ++ L) ls hB1 hP1 hD1 hS1 hl T2 rfl Y2
    exact ⟨t2, go t2 a1, b1⟩
  · obtain ⟨-, -, hS1⟩ := vx_keep g0 e1 hS (fun _ _ h => h) (fun _ h => h) hL hF
    rw [← e1] at hP1 hce
    obtain ⟨hp, ⟨pre, suf, a9, b9, ct, hs1, k1, k2, k3, k4, k5, k6⟩, hV⟩ := kx E M1 hq
    have hT1 : c.exceptionTable.toList.map (fun h => (h.startPc, h.endPc, h.handlerPc, h.catchType)) = pre ++ (a9, b9, hp, ct) :: suf := hT.trans hs1
    obtain ⟨l1, l2, f1, f2, f3⟩ := List.map_eq_append_iff.mp hT1
    obtain ⟨x, l3, f4, f5, f6⟩ := List.map_eq_cons_iff.mp f3
    subst f4
    obtain ⟨g1, g2, g3, g4⟩ : x.startPc = a9 ∧ x.endPc = b9 ∧ x.handlerPc = hp ∧ x.catchType = ct := by
      have := f5
      simp only [Prod.mk.injEq] at this
      exact this
    have hcat : vx_W p l e R s m args below meth c T2.heap (locs ++ L) (ck + mc) (sk + ms) Q (F0 m pc ls st) q := by
      refine vx_catch (E := E) (name := E) C.2.2.2.1 l1 x l3 f1 (fun z hz => Or.inr ?_) (by simp [covers, g1, g2, k1, k2]) (by rw [g4]; exact k3) (by rw [g4]; exact hts _ k4) (va_Nw.use rfl (C.2.2.2.2.2.2.2.2.1.1 _ k5)) hce hcv hcl ?_
      · have hz2 : (z.startPc, z.endPc, z.handlerPc, z.catchType) ∈ pre := by rw [← f2]; exact List.mem_map.mpr ⟨z, hz, rfl⟩
        obtain ⟨z1, nm, z2, z3⟩ := k6 _ hz2
        exact ⟨z1, nm, hts _ z2, C.2.2.2.2.2.2.2.2.1.2.2.1 _ z3⟩
      · rw [g3]
        exact hV q X1 T2.heap (locs ++ L) ls hB1 hP1 hD1 hS1 hl
    obtain ⟨t2, a1, b1⟩ := hcat T2 rfl Y2
    exact ⟨t2, go.trans a1, b1⟩
theorem ts_callW {Pw : Prop} {P : Int → ts_M → Prop} {hh : List (Nat × Nat × Nat × Nat)} {y : MethodName} {bytes : ByteArray} {maxL : Nat} {rt : Option FieldType} {d mc ms n : Nat} {stk : List Value} (C : ts_C p l s m args meth c g cc own nL ret) (As : List Value)
    (hcon : Pw → ts_ConW l g y bytes maxL rt hh d mc ms As M (ts_Ri P)) (hy : ts_Yw y bytes maxL rt hh n) (hw : Cond.methodLink own index y ∈ lw_good) (hn : As.length = n) (hstk : stk = As.reverse ++ st) (hrm : (st.map fun v => v.category).sum ≤ 8) (hR : d + 1 ≤ R.frames ∧ 8 + (maxL + 11) + 40 * d ≤ R.locals) (hf : ck + mc ≤ R.cells ∧ sk + ms ≤ R.slots) (hdg : decode cc pc = .ok (.invokestatic index, 3))
    (kk : ∀ (r : Int) M1, P r M1 → ts_V p l e R s m args below meth c g nL (ck + mc) (sk + ms) Q (pc + 3) lv (ts_v r :: st) M1) : Pw → ts_V p l e R s m args below meth c g nL ck sk Q pc lv stk M := fun h => by
  obtain ⟨h0, h2, h3, h4, h5⟩ := hy
  have hts := C.2.2.2.2.1
  refine ts_after (Qr := ts_Ri P) (mc := mc) (ms := ms) (av := As.toArray) (fun X H locs ls hB hP hD hS hl => ?_) (fun v M1 h1 => by obtain ⟨r, rfl, h2⟩ := h1; exact kk r M1 h2)
  exact vx_runSW ⟨C.1, C.2.1, C.2.2.1, C.2.2.2.1, hts⟩ (hcon h) ⟨⟨rfl, rfl, hR.1, hR.2, ts_pays h3 hts, List.mem_cons_self⟩, hts _ h3, hts _ h2, h4, ts_sig h5, hts _ hw, hts _ h0⟩ ⟨ts_blind, fun U hU hW => ⟨rfl, ts_At.mk C.2.2.2.2.2.2.2.1 C.2.2.2.2.2.2.2.2.1 C.2.2.2.2.2.2.2.2.2.1 C.2.2.2.2.2.2.2.2.2.2.1 hB hP hD hS hU hW⟩⟩ rfl hn hl.1 hstk (lv_room hrm) hdg hf
theorem ts_catchVi {Pw : Prop} {Pr : Int → ts_M → Prop} {Qx : String → ts_M → Prop} {hh : List (Nat × Nat × Nat × Nat)} {y : MethodName} {bytes : ByteArray} {maxL : Nat} {rt : Option FieldType} {d mc ms n a ci N : Nat} {T : u_T} {F : (Int → Int) → (Int → Int64) → (Int → UInt64) → List Value} {stk : List Value} (C : ts_C p l s m args meth c g cc own nL ret) (hT : ts_T c hh) (As : List Value)
    (hcon : Pw → ts_ConX l g y bytes maxL rt d mc ms (.ref (ts_ad g a) :: As) M (ts_Ri Pr) Qx) (hy : ts_Yv y bytes maxL rt n) (hw : Cond.methodLink own index y ∈ lw_good) (ha : a < 177) (hG : ts_O g a ci F) (hc : vwCl[ci]? = some (y.cls, T, N)) (hn : As.length = n) (hstk : stk = As.reverse ++ .ref (ts_ad g a) :: st) (hrm : (st.map fun v => v.category).sum ≤ 8) (hR : d + 1 ≤ R.frames ∧ 8 + (maxL + 11) + 40 * d ≤ R.locals) (hf : ck + mc ≤ R.cells ∧ sk + ms ≤ R.slots) (hdg : decode cc pc = .ok (.invokevirtual index, 3))
    (kx : ∀ (E : String) (M1 : ts_M), Qx E M1 → ∃ hp : Nat, ts_hd own hh pc E hp ∧ ∀ q : Nat, ts_V p l e R s m args below meth c g nL (ck + mc) (sk + ms) Q hp lv [.ref q] M1)
    (kk : ∀ (r : Int) M1, Pr r M1 → ts_V p l e R s m args below meth c g nL (ck + mc) (sk + ms) Q (pc + 3) lv (ts_v r :: st) M1) : Pw → ts_V p l e R s m args below meth c g nL ck sk Q pc lv stk M :=
  ts_catchV C hT As hcon hy hw ha hG hc hn hstk hrm hR hf hdg kx (fun v M1 h1 => by obtain ⟨r, rfl, h2⟩ := h1; exact kk r M1 h2)
theorem ts_catchVd {Pw : Prop} {Pr : UInt64 → ts_M → Prop} {Qx : String → ts_M → Prop} {hh : List (Nat × Nat × Nat × Nat)} {y : MethodName} {bytes : ByteArray} {maxL : Nat} {rt : Option FieldType} {d mc ms n a ci N : Nat} {T : u_T} {F : (Int → Int) → (Int → Int64) → (Int → UInt64) → List Value} {stk : List Value} (C : ts_C p l s m args meth c g cc own nL ret) (hT : ts_T c hh) (As : List Value)
    (hcon : Pw → ts_ConX l g y bytes maxL rt d mc ms (.ref (ts_ad g a) :: As) M (ts_Rd Pr) Qx) (hy : ts_Yv y bytes maxL rt n) (hw : Cond.methodLink own index y ∈ lw_good) (ha : a < 177) (hG : ts_O g a ci F) (hc : vwCl[ci]? = some (y.cls, T, N)) (hn : As.length = n) (hstk : stk = As.reverse ++ .ref (ts_ad g a) :: st) (hrm : (st.map fun v => v.category).sum ≤ 8) (hR : d + 1 ≤ R.frames ∧ 8 + (maxL + 11) + 40 * d ≤ R.locals) (hf : ck + mc ≤ R.cells ∧ sk + ms ≤ R.slots) (hdg : decode cc pc = .ok (.invokevirtual index, 3))
    (kx : ∀ (E : String) (M1 : ts_M), Qx E M1 → ∃ hp : Nat, ts_hd own hh pc E hp ∧ ∀ q : Nat, ts_V p l e R s m args below meth c g nL (ck + mc) (sk + ms) Q hp lv [.ref q] M1)
    (kk : ∀ (r : UInt64) M1, Pr r M1 → ts_V p l e R s m args below meth c g nL (ck + mc) (sk + ms) Q (pc + 3) lv (.double r :: st) M1) : Pw → ts_V p l e R s m args below meth c g nL ck sk Q pc lv stk M :=
  ts_catchV C hT As hcon hy hw ha hG hc hn hstk hrm hR hf hdg kx (fun v M1 h1 => by obtain ⟨r, rfl, h2⟩ := h1; exact kk r M1 h2)
theorem ts_catchVf {Pw : Prop} {Pr : UInt32 → ts_M → Prop} {Qx : String → ts_M → Prop} {hh : List (Nat × Nat × Nat × Nat)} {y : MethodName} {bytes : ByteArray} {maxL : Nat} {rt : Option FieldType} {d mc ms n a ci N : Nat} {T : u_T} {F : (Int → Int) → (Int → Int64) → (Int → UInt64) → List Value} {stk : List Value} (C : ts_C p l s m args meth c g cc own nL ret) (hT : ts_T c hh) (As : List Value)
    (hcon : Pw → ts_ConX l g y bytes maxL rt d mc ms (.ref (ts_ad g a) :: As) M (ts_Rf Pr) Qx) (hy : ts_Yv y bytes maxL rt n) (hw : Cond.methodLink own index y ∈ lw_good) (ha : a < 177) (hG : ts_O g a ci F) (hc : vwCl[ci]? = some (y.cls, T, N)) (hn : As.length = n) (hstk : stk = As.reverse ++ .ref (ts_ad g a) :: st) (hrm : (st.map fun v => v.category).sum ≤ 8) (hR : d + 1 ≤ R.frames ∧ 8 + (maxL + 11) + 40 * d ≤ R.locals) (hf : ck + mc ≤ R.cells ∧ sk + ms ≤ R.slots) (hdg : decode cc pc = .ok (.invokevirtual index, 3))
    (kx : ∀ (E : String) (M1 : ts_M), Qx E M1 → ∃ hp : Nat, ts_hd own hh pc E hp ∧ ∀ q : Nat, ts_V p l e R s m args below meth c g nL (ck + mc) (sk + ms) Q hp lv [.ref q] M1)
    (kk : ∀ (r : UInt32) M1, Pr r M1 → ts_V p l e R s m args below meth c g nL (ck + mc) (sk + ms) Q (pc + 3) lv (.float r :: st) M1) : Pw → ts_V p l e R s m args below meth c g nL ck sk Q pc lv stk M :=
  ts_catchV C hT As hcon hy hw ha hG hc hn hstk hrm hR hf hdg kx (fun v M1 h1 => by obtain ⟨r, rfl, h2⟩ := h1; exact kk r M1 h2)
/-- the script's numbers -/
def ts_xs (xs : Nat → Int32) (i : Int) : Int := (xs i.toNat).toInt
theorem ts_slen {b L : Nat} {xs : Nat → Int32} (C : ts_C p l s m args meth c g cc own nL ret) (hX0 : va_X b L xs s s.heap) (hb : b < s.heap.size) (hbA : ¬ ts_A g b) (hdg : decode cc pc = .ok (.arraylength, 1))
    (kk : P → ts_V p l e R s m args below meth c g nL ck sk Q (pc + 1) lv (ts_v (L : Int) :: st) M) : P → ts_V p l e R s m args below meth c g nL ck sk Q pc lv (.ref b :: st) M := fun h X H locs ls hB hP hD hS hl =>
  va_slen C.1 C.2.1 hX0 hb hbA hS hdg (by rw [show Value.int (Int32.ofNat L) = ts_v (L : Int) from by show _ = Value.int (Int32.ofInt _); rw [Int32.ofInt_eq_ofNat]]; exact (kk h X H locs ls hB hP hD hS hl))
theorem ts_sld {b L : Nat} {xs : Nat → Int32} {x : Int} (C : ts_C p l s m args meth c g cc own nL ret) (hX0 : va_X b L xs s s.heap) (hb : b < s.heap.size) (hbA : ¬ ts_A g b) (hdg : decode cc pc = .ok (.iaload, 1))
    (kk : P → ts_V p l e R s m args below meth c g nL ck sk Q (pc + 1) lv (ts_v (ts_xs xs (ts_w x)) :: st) M) : ((0 ≤ ts_w x ∧ ts_w x < (L : Int)) ∧ P) → ts_V p l e R s m args below meth c g nL ck sk Q pc lv (ts_v x :: .ref b :: st) M := fun h X H locs ls hB hP hD hS hl =>
  va_sld C.1 C.2.1 hX0 hb hbA hS (ts_ix (n := L) h.1).1 hdg (by
    have he := (ts_ix (n := L) h.1).2
    have e : Value.int (xs (ts_I x).toNatClampNeg) = ts_v (ts_xs xs (ts_w x)) := by
      unfold ts_xs
      rw [ts_vt, show (ts_w x).toNat = (ts_I x).toNatClampNeg by omega]
    rw [e]
    exact kk h.2 X H locs ls hB hP hD hS hl)
theorem ts_fcmp (C : ts_C p l s m args meth c g cc own nL ret) {x y : UInt32} {op : CmpOp} (hdg : decode cc pc = .ok (.fcmp op, 1))
    (kk : P → ts_V p l e R s m args below meth c g nL ck sk Q (pc + 1) lv (ts_v ((Op.cmpValue (FP.fcmp x y) op).toInt) :: st) M) : P → ts_V p l e R s m args below meth c g nL ck sk Q pc lv (.float y :: .float x :: st) M := fun h X H locs ls hB hP hD hS hl => lv_fcmp C.1 C.2.1 hdg (ts_cv (ts_vt _) (kk h X H locs ls hB hP hD hS hl))
end TSLW
