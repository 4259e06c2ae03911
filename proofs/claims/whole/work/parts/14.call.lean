section TSK
variable {p : Program} {l : Launch} {e : Env} {R : Room} {s : State} {m : MethodId} {args : Array Value} {below : List Frame} {meth : Method} {c : Code} {Q : State → Prop}
variable {g : ts_W} {cc : ByteArray} {own : String} {nL ck sk : Nat} {ret : Option FieldType} {P : Prop} {pc : Nat} {lv : List (Nat × Value)} {st : List Value} {M : ts_M}
/-- an answer by its kind -/
abbrev ts_Ri (Q : Int → ts_M → Prop) : Option Value → ts_M → Prop := fun v M1 => ∃ r : Int, v = some (ts_v r) ∧ Q r M1
abbrev ts_Rl (Q : Int64 → ts_M → Prop) : Option Value → ts_M → Prop := fun v M1 => ∃ r : Int64, v = some (.long r) ∧ Q r M1
abbrev ts_Rd (Q : UInt64 → ts_M → Prop) : Option Value → ts_M → Prop := fun v M1 => ∃ r : UInt64, v = some (.double r) ∧ Q r M1
abbrev ts_Rf (Q : UInt32 → ts_M → Prop) : Option Value → ts_M → Prop := fun v M1 => ∃ r : UInt32, v = some (.float r) ∧ Q r M1
abbrev ts_Rv (Q : ts_M → Prop) : Option Value → ts_M → Prop := fun v M1 => v = none ∧ Q M1
/-- what a call needs of the method called: virtual, static -/
def ts_Yv (y : MethodName) (bytes : ByteArray) (maxL : Nat) (rt : Option FieldType) (n : Nat) : Prop :=
  Cond.instanceMethod y ∈ lw_good ∧ Cond.selects y.cls y y ∈ lw_good ∧ Cond.initialized y.cls ∈ lw_good ∧ Cond.code y bytes maxL rt ∈ lw_good ∧ (y.cls ≠ "java/lang/invoke/MethodHandle" ∧ y.cls ≠ "java/lang/invoke/VarHandle") ∧ (parseMethodDescriptor y.desc).map (fun d => d.parameters.length) = some n
def ts_Ys (y : MethodName) (bytes : ByteArray) (maxL : Nat) (rt : Option FieldType) (n : Nat) : Prop :=
  Cond.static y ∈ lw_good ∧ Cond.initialized y.cls ∈ lw_good ∧ Cond.code y bytes maxL rt ∈ lw_good ∧ (y.cls ≠ "java/lang/invoke/MethodHandle" ∧ y.cls ≠ "java/lang/invoke/VarHandle") ∧ (parseMethodDescriptor y.desc).map (fun d => d.parameters.length) = some n
theorem ts_pays {args : Array Value} {s : State} {w0 : Cond} (h0 : w0 ∈ lw_good) (hts : ∀ w ∈ lw_good, w.before args s = true) : ∀ w ∈ w0 :: lw_good, ∀ (a' : Array Value) (U : State), s.WarmedH U.vm → w.before a' U = true := fun w hw a' U hW => by
  have h1 : w ∈ lw_good := (List.mem_cons.mp hw).elim (fun e => e ▸ h0) id
  exact pay_in hts ts_good w h1 a' U hW
theorem ts_sig {y : MethodName} {n : Nat} (h : (parseMethodDescriptor y.desc).map (fun d => d.parameters.length) = some n) : ∀ sig, parseMethodDescriptor y.desc = some sig → n = sig.parameters.length := fun sig hs => by
  rw [hs] at h
  exact (Option.some.inj h).symm
theorem ts_cw {y : MethodName} {bytes : ByteArray} {maxL : Nat} {rt : Option FieldType} {d mc ms n index : Nat} (hts : ∀ w ∈ lw_good, w.before args s = true) (h2 : Cond.initialized y.cls ∈ lw_good) (h3 : Cond.code y bytes maxL rt ∈ lw_good) (h4 : y.cls ≠ "java/lang/invoke/MethodHandle" ∧ y.cls ≠ "java/lang/invoke/VarHandle") (h5 : (parseMethodDescriptor y.desc).map (fun d => d.parameters.length) = some n) (hw : Cond.methodLink own index y ∈ lw_good) (hR : d + 1 ≤ R.frames ∧ 8 + (maxL + 11) + 40 * d ≤ R.locals) :
    CallB R s args own index y bytes maxL rt (.code y bytes maxL rt :: lw_good) (ts_rm d mc ms) mc ms n :=
  ⟨rfl, rfl, hR.1, hR.2, ts_pays h3 hts, List.mem_cons_self, hts _ h3, hts _ h2, h4, ts_sig h5, hts _ hw⟩
/-- after a call: the frame goes on over the new world -/
theorem ts_after {Qr : Option Value → ts_M → Prop} {mc ms : Nat} {av : Array Value} {stk : List Value}
    (hrun : ∀ (X : va_W) (H : Heap) (locs : List Loc) (ls : Array Slot), ts_SB g M X → va_P g.1 vwCl (ts_ws g M ++ X) H → va_D (ts_A g) (ts_ws g M ++ X) → va_S (ts_A g) s.heap H locs → lv_has ls nL lv → va_Run p l e R s m args below meth c H locs ck sk mc ms (F0 m pc ls stk) st (ts_Q g Qr av) (ts_A g))
    (kk : ∀ (v : Option Value) (M1 : ts_M), Qr v M1 → ts_V p l e R s m args below meth c g nL (ck + mc) (sk + ms) Q (pc + 3) lv (v.toList ++ st) M1) : ts_V p l e R s m args below meth c g nL ck sk Q pc lv stk M := by
  intro X H locs ls hB hP hD hS hl T hT Y
  obtain ⟨v, st0, t, T2, L, h0, Y2, hL, e1, e2, ⟨v', M1, hv, hq, hat, hF⟩, go⟩ := hrun X H locs ls hB hP hD hS hl T hT Y
  cases hv
  obtain ⟨⟨X1, hB1, hP1, hD1⟩, -, -, -, -⟩ := hat
  obtain ⟨-, -, hS1⟩ := vx_keep h0 e1 hS (fun _ _ h => h) (fun _ h => h) hL hF
  rw [← e1] at hP1
  obtain ⟨t2, a1, b1⟩ := kk v M1 hq X1 T2.heap (locs ++ L) ls hB1 hP1 hD1 hS1 hl T2 rfl Y2
  exact ⟨t2, go t2 a1, b1⟩
theorem ts_callV {Pw : Prop} {Qr : Option Value → ts_M → Prop} {y : MethodName} {bytes : ByteArray} {maxL : Nat} {rt : Option FieldType} {d mc ms n index a ci N : Nat} {T : u_T} {F : (Int → Int) → (Int → Int64) → (Int → UInt64) → List Value} {stk : List Value} (C : ts_C p l s m args meth c g cc own nL ret) (As : List Value)
    (hcon : Pw → ts_Con l g y bytes maxL rt d mc ms (.ref (ts_ad g a) :: As) M Qr) (hy : ts_Yv y bytes maxL rt n) (hw : Cond.methodLink own index y ∈ lw_good) (ha : a < 177) (hG : ts_O g a ci F) (hc : vwCl[ci]? = some (y.cls, T, N)) (hn : As.length = n) (hstk : stk = As.reverse ++ .ref (ts_ad g a) :: st) (hrm : (st.map fun v => v.category).sum ≤ 8) (hR : d + 1 ≤ R.frames ∧ 8 + (maxL + 11) + 40 * d ≤ R.locals) (hf : ck + mc ≤ R.cells ∧ sk + ms ≤ R.slots) (hdg : decode cc pc = .ok (.invokevirtual index, 3))
    (kk : ∀ (v : Option Value) (M1 : ts_M), Qr v M1 → ts_V p l e R s m args below meth c g nL (ck + mc) (sk + ms) Q (pc + 3) lv (v.toList ++ st) M1) : Pw → ts_V p l e R s m args below meth c g nL ck sk Q pc lv stk M := fun h => by
  obtain ⟨h0, h1, h2, h3, h4, h5⟩ := hy
  have hts := C.2.2.2.2.1
  refine ts_after (Qr := Qr) (mc := mc) (ms := ms) (av := (Value.ref (ts_ad g a) :: As).toArray) (fun X H locs ls hB hP hD hS hl => ?_) kk
  have he : (ts_ws g M ++ X)[a]? = some (ts_ad g a, .inr (ci, F (M.1 a) (M.2.1 a) (M.2.2 a))) := by rw [ts_ws_get g M X ha, hG]
  exact va_runV ⟨C.1, C.2.1, C.2.2.1, C.2.2.2.1, hts⟩ (hcon h) ⟨ts_cw hts h2 h3 h4 h5 hw hR, hts _ h0, hts _ h1⟩ ⟨ts_blind, va_recv C.2.2.2.2.2.2.2.1 hP hc he, fun U hU hW => ⟨rfl, ts_At.mk C.2.2.2.2.2.2.2.1 C.2.2.2.2.2.2.2.2.1 C.2.2.2.2.2.2.2.2.2.1 C.2.2.2.2.2.2.2.2.2.2.1 hB hP hD hS hU hW⟩⟩ rfl hn hl.1 hstk (lv_room hrm) hdg hf
theorem ts_callS {Pw : Prop} {Qr : Option Value → ts_M → Prop} {y : MethodName} {bytes : ByteArray} {maxL : Nat} {rt : Option FieldType} {d mc ms n index : Nat} {stk : List Value} (C : ts_C p l s m args meth c g cc own nL ret) (As : List Value)
    (hcon : Pw → ts_Con l g y bytes maxL rt d mc ms As M Qr) (hy : ts_Ys y bytes maxL rt n) (hw : Cond.methodLink own index y ∈ lw_good) (hn : As.length = n) (hstk : stk = As.reverse ++ st) (hrm : (st.map fun v => v.category).sum ≤ 8) (hR : d + 1 ≤ R.frames ∧ 8 + (maxL + 11) + 40 * d ≤ R.locals) (hf : ck + mc ≤ R.cells ∧ sk + ms ≤ R.slots) (hdg : decode cc pc = .ok (.invokestatic index, 3))
    (kk : ∀ (v : Option Value) (M1 : ts_M), Qr v M1 → ts_V p l e R s m args below meth c g nL (ck + mc) (sk + ms) Q (pc + 3) lv (v.toList ++ st) M1) : Pw → ts_V p l e R s m args below meth c g nL ck sk Q pc lv stk M := fun h => by
  obtain ⟨h0, h2, h3, h4, h5⟩ := hy
  have hts := C.2.2.2.2.1
  refine ts_after (Qr := Qr) (mc := mc) (ms := ms) (av := As.toArray) (fun X H locs ls hB hP hD hS hl => ?_) kk
  exact va_runS ⟨C.1, C.2.1, C.2.2.1, C.2.2.2.1, hts⟩ (hcon h) ⟨ts_cw hts h2 h3 h4 h5 hw hR, hts _ h0⟩ ⟨ts_blind, fun U hU hW => ⟨rfl, ts_At.mk C.2.2.2.2.2.2.2.1 C.2.2.2.2.2.2.2.2.1 C.2.2.2.2.2.2.2.2.2.1 C.2.2.2.2.2.2.2.2.2.2.1 hB hP hD hS hU hW⟩⟩ rfl hn hl.1 hstk (lv_room hrm) hdg hf
/-- a private static of a nest mate -/
theorem ts_callSN {Pw : Prop} {Qr : Option Value → ts_M → Prop} {y : MethodName} {bytes : ByteArray} {maxL : Nat} {rt : Option FieldType} {d mc ms n index : Nat} {host : String} {stk : List Value} (C : ts_C p l s m args meth c g cc own nL ret) (As : List Value)
    (hcon : Pw → ts_Con l g y bytes maxL rt d mc ms As M Qr) (hy : ts_Ys y bytes maxL rt n) (hw : Cond.methodLinkNest own index y host ∈ ts_nw) (hn : As.length = n) (hstk : stk = As.reverse ++ st) (hrm : (st.map fun v => v.category).sum ≤ 8) (hR : d + 1 ≤ R.frames ∧ 8 + (maxL + 11) + 40 * d ≤ R.locals) (hf : ck + mc ≤ R.cells ∧ sk + ms ≤ R.slots) (hdg : decode cc pc = .ok (.invokestatic index, 3))
    (kk : ∀ (v : Option Value) (M1 : ts_M), Qr v M1 → ts_V p l e R s m args below meth c g nL (ck + mc) (sk + ms) Q (pc + 3) lv (v.toList ++ st) M1) : Pw → ts_V p l e R s m args below meth c g nL ck sk Q pc lv stk M := fun h => by
  obtain ⟨h0, h2, h3, h4, h5⟩ := hy
  have hts := C.2.2.2.2.1
  have hnw : va_Nw (Cond.methodLinkNest own index y host) s := C.2.2.2.2.2.2.2.2.1.1 _ hw
  refine ts_after (Qr := Qr) (mc := mc) (ms := ms) (av := As.toArray) (fun X H locs ls hB hP hD hS hl => ?_) kk
  exact va_runSN (host := host) ⟨C.1, C.2.1, C.2.2.1, C.2.2.2.1, hts⟩ (hcon h) ⟨⟨⟨rfl, rfl, hR.1, hR.2, ts_pays h3 hts, List.mem_cons_self⟩, hts _ h3, hts _ h2, h4, ts_sig h5, va_Nw.use rfl hnw⟩, hts _ h0, trivial⟩ ⟨ts_blind, fun U hU hW => ⟨rfl, ts_At.mk C.2.2.2.2.2.2.2.1 C.2.2.2.2.2.2.2.2.1 C.2.2.2.2.2.2.2.2.2.1 C.2.2.2.2.2.2.2.2.2.2.1 hB hP hD hS hU hW⟩⟩ rfl hn hl.1 hstk (lv_room hrm) hdg hf
/-- ends of a method that returns -/
theorem ts_end {v : Option Value} {Qr : Option Value → ts_M → Prop} {X : va_W} {H : Heap} {locs : List Loc} {t : State} (C : ts_C p l s m args meth c g cc own nL ret) (hB : ts_SB g M X) (hP : va_P g.1 vwCl (ts_ws g M ++ X) H) (hD : va_D (ts_A g) (ts_ws g M ++ X)) (hS : va_S (ts_A g) s.heap H locs) (hq : Qr v M) (ht : t.heap = H) (hW : s.WarmedH t.vm) {av : Array Value} : ts_Q g Qr av s (.returned v) t :=
  ⟨v, M, rfl, hq, ts_At.mk C.2.2.2.2.2.2.2.1 C.2.2.2.2.2.2.2.2.1 C.2.2.2.2.2.2.2.2.2.1 C.2.2.2.2.2.2.2.2.2.2.1 hB hP hD hS ht hW, hS.F ht⟩
variable {Qr : Option Value → ts_M → Prop} {mc ms : Nat}
theorem ts_iret {r : Int} (C : ts_C p l s m args meth c g cc own nL (some .int)) (hc : ck ≤ mc) (hs : sk ≤ ms) (hdg : decode cc pc = .ok (.ireturn, 1)) : Qr (some (ts_v r)) M → ts_V p l e R s m args below meth c g nL ck sk (MQ below (ts_Q g Qr) args s mc ms (ts_A g)) pc lv [ts_v r] M := fun h X H locs ls hB hP hD hS hl => by
  have hlocks : meth.locks = false := C.2.2.2.2.2.2.1
  exact W.widen hc hs (W.iret C.1 C.2.1 C.2.2.2.2.2.1 (fun t ht hW => ts_end C hB hP hD hS h ht hW) hS.2.2 hdg)
theorem ts_zret {r : Int} (C : ts_C p l s m args meth c g cc own nL (some .boolean)) (hc : ck ≤ mc) (hs : sk ≤ ms) (hdg : decode cc pc = .ok (.ireturn, 1)) : ((ts_w r = 0 ∨ ts_w r = 1) ∧ Qr (some (ts_v r)) M) → ts_V p l e R s m args below meth c g nL ck sk (MQ below (ts_Q g Qr) args s mc ms (ts_A g)) pc lv [ts_v r] M := fun h X H locs ls hB hP hD hS hl => by
  have hlocks : meth.locks = false := C.2.2.2.2.2.2.1
  exact W.widen hc hs (W.zret C.1 C.2.1 C.2.2.2.2.2.1 (ts_bool h.1).1 (fun t ht hW => ts_end C hB hP hD hS h.2 ht hW) hS.2.2 hdg)
theorem ts_char {x : Int} (h : 0 ≤ ts_w x ∧ ts_w x < 65536) : narrow .char (ts_v x) = ts_v x ∧ fits .char (ts_v x) = true := by
  have e : ts_v x = .int (nI (ts_w x).toNat) := by
    show Value.int (Int32.ofInt x) = .int (Int32.ofNat (ts_w x).toNat)
    rw [← Int32.ofInt_eq_ofNat, Int.toNat_of_nonneg h.1]
    show Value.int (ts_I x) = .int (ts_I (ts_w x))
    rw [ts_I_w]
  rw [e]
  exact pk_charN (by omega)
theorem ts_cret {r : Int} (C : ts_C p l s m args meth c g cc own nL (some .char)) (hc : ck ≤ mc) (hs : sk ≤ ms) (hdg : decode cc pc = .ok (.ireturn, 1)) : ((0 ≤ ts_w r ∧ ts_w r < 65536) ∧ Qr (some (ts_v r)) M) → ts_V p l e R s m args below meth c g nL ck sk (MQ below (ts_Q g Qr) args s mc ms (ts_A g)) pc lv [ts_v r] M := fun h X H locs ls hB hP hD hS hl => by
  have hlocks : meth.locks = false := C.2.2.2.2.2.2.1
  exact W.widen hc hs (W.zret C.1 C.2.1 C.2.2.2.2.2.1 (ts_char h.1).1 (fun t ht hW => ts_end C hB hP hD hS h.2 ht hW) hS.2.2 hdg)
theorem ts_lret {r : Int64} (C : ts_C p l s m args meth c g cc own nL (some .long)) (hc : ck ≤ mc) (hs : sk ≤ ms) (hdg : decode cc pc = .ok (.lreturn, 1)) : Qr (some (.long r)) M → ts_V p l e R s m args below meth c g nL ck sk (MQ below (ts_Q g Qr) args s mc ms (ts_A g)) pc lv [.long r] M := fun h X H locs ls hB hP hD hS hl => by
  have hlocks : meth.locks = false := C.2.2.2.2.2.2.1
  exact W.widen hc hs (W.lret C.1 C.2.1 C.2.2.2.2.2.1 (fun t ht hW => ts_end C hB hP hD hS h ht hW) hS.2.2 hdg)
theorem ts_dret {r : UInt64} (C : ts_C p l s m args meth c g cc own nL (some .double)) (hc : ck ≤ mc) (hs : sk ≤ ms) (hdg : decode cc pc = .ok (.dreturn, 1)) : Qr (some (.double r)) M → ts_V p l e R s m args below meth c g nL ck sk (MQ below (ts_Q g Qr) args s mc ms (ts_A g)) pc lv [.double r] M := fun h X H locs ls hB hP hD hS hl => by
  have hlocks : meth.locks = false := C.2.2.2.2.2.2.1
  exact W.widen hc hs (W.dret C.1 C.2.1 C.2.2.2.2.2.1 (fun t ht hW => ts_end C hB hP hD hS h ht hW) hS.2.2 hdg)
theorem ts_fret {r : UInt32} (C : ts_C p l s m args meth c g cc own nL (some .float)) (hc : ck ≤ mc) (hs : sk ≤ ms) (hdg : decode cc pc = .ok (.freturn, 1)) : Qr (some (.float r)) M → ts_V p l e R s m args below meth c g nL ck sk (MQ below (ts_Q g Qr) args s mc ms (ts_A g)) pc lv [.float r] M := fun h X H locs ls hB hP hD hS hl => by
  have hlocks : meth.locks = false := C.2.2.2.2.2.2.1
  exact W.widen hc hs (W.fret C.1 C.2.1 C.2.2.2.2.2.1 (fun t ht hW => ts_end C hB hP hD hS h ht hW) hS.2.2 hdg)
theorem ts_vret (C : ts_C p l s m args meth c g cc own nL none) (hc : ck ≤ mc) (hs : sk ≤ ms) (hdg : decode cc pc = .ok (.return_, 1)) : Qr none M → ts_V p l e R s m args below meth c g nL ck sk (MQ below (ts_Q g Qr) args s mc ms (ts_A g)) pc lv [] M := fun h X H locs ls hB hP hD hS hl => by
  have hlocks : meth.locks = false := C.2.2.2.2.2.2.1
  exact W.widen hc hs (W.vret C.1 C.2.1 C.2.2.2.2.2.1 (fun t ht hW => ts_end C hB hP hD hS h ht hW) hS.2.2 hdg)
theorem ts_aret {rt : FieldType} {v : Value} (C : ts_C p l s m args meth c g cc own nL (some rt)) (hrt : (∃ n, rt = .object n) ∨ ∃ t, rt = .array t) (hv : v = .null ∨ ∃ a, v = .ref a) (hc : ck ≤ mc) (hs : sk ≤ ms) (hdg : decode cc pc = .ok (.areturn, 1)) : Qr (some v) M → ts_V p l e R s m args below meth c g nL ck sk (MQ below (ts_Q g Qr) args s mc ms (ts_A g)) pc lv [v] M := fun h X H locs ls hB hP hD hS hl => by
  have hlocks : meth.locks = false := C.2.2.2.2.2.2.1
  exact W.widen hc hs (W.aret C.1 C.2.1 C.2.2.2.2.2.1 hrt hv (fun t ht hW => ts_end C hB hP hD hS h ht hW) hS.2.2 hdg)
/-- the end of a body that might have thrown -/
theorem ts_noX {Qx : String → ts_M → Prop} (k : P → ts_V p l e R s m args below meth c g nL ck sk (MQ below (ts_Q g Qr) args s mc ms (ts_A g)) pc lv st M) : P → ts_V p l e R s m args below meth c g nL ck sk (vx_MQ below (ts_Q g Qr) (ts_X g Qx) args s mc ms (ts_A g)) pc lv st M := fun h X H locs ls hB hP hD hS hl => vx_ret (k h X H locs ls hB hP hD hS hl)
/-- fewer locals -/
theorem ts_sub {lv' : List (Nat × Value)} (ks : List Nat) (hk : lv_pick lv ks = lv') (kk : P → ts_V p l e R s m args below meth c g nL ck sk Q pc lv' st M) : P → ts_V p l e R s m args below meth c g nL ck sk Q pc lv st M := fun h X H locs ls hB hP hD hS hl => kk h X H locs ls hB hP hD hS (lv_sub hl ks hk)
/-- a number on the stack gets a name -/
theorem ts_nm {P : Int → Prop} {x0 : Int} (kk : ∀ x : Int, P x → ts_V p l e R s m args below meth c g nL ck sk Q pc lv (ts_v x :: st) M) : (∀ x : Int, x = x0 → P x) → ts_V p l e R s m args below meth c g nL ck sk Q pc lv (ts_v x0 :: st) M := fun h => kk x0 (h x0 rfl)
end TSK
section TSK2
variable {p : Program} {l : Launch} {e : Env} {R : Room} {s : State} {m : MethodId} {args : Array Value} {below : List Frame} {meth : Method} {c : Code} {Q : State → Prop}
variable {g : ts_W} {cc : ByteArray} {own : String} {nL ck sk : Nat} {ret : Option FieldType} {P : Prop} {pc : Nat} {lv : List (Nat × Value)} {st : List Value} {M : ts_M}
theorem ts_lt {b : Nat} (hb : ts_isS b) (k : Nat) (hk : k < 14) : b + k < 177 := by have := ts_isS_lt hb; omega
theorem ts_lt0 {b : Nat} (hb : ts_isS b) : b < 177 := by have := ts_isS_lt hb; omega
theorem ts_ialdc {a n : Nat} {x k : Int} (C : ts_C p l s m args meth c g cc own nL ret) (ha : a < 177) (hG : ∀ f h d, ts_G g a f h d = ts_ia g n f) (hk : ts_w x = k) (hin : 0 ≤ k ∧ k < (n : Int)) (hdg : decode cc pc = .ok (.iaload, 1))
    (kk : P → ts_V p l e R s m args below meth c g nL ck sk Q (pc + 1) lv (ts_v (M.1 a k) :: st) M) : P → ts_V p l e R s m args below meth c g nL ck sk Q pc lv (ts_v x :: .ref (ts_ad g a) :: st) M := fun h => by subst hk; exact ts_iald C ha hG hdg kk ⟨hin, h⟩
theorem ts_laldc {a n : Nat} {x k : Int} (C : ts_C p l s m args meth c g cc own nL ret) (ha : a < 177) (hG : ∀ f h d, ts_G g a f h d = ts_la g n h) (hk : ts_w x = k) (hin : 0 ≤ k ∧ k < (n : Int)) (hdg : decode cc pc = .ok (.laload, 1))
    (kk : P → ts_V p l e R s m args below meth c g nL ck sk Q (pc + 1) lv (.long (M.2.1 a k) :: st) M) : P → ts_V p l e R s m args below meth c g nL ck sk Q pc lv (ts_v x :: .ref (ts_ad g a) :: st) M := fun h => by subst hk; exact ts_lald C ha hG hdg kk ⟨hin, h⟩
theorem ts_daldc {a n : Nat} {x k : Int} (C : ts_C p l s m args meth c g cc own nL ret) (ha : a < 177) (hG : ∀ f h d, ts_G g a f h d = ts_da g n d) (hk : ts_w x = k) (hin : 0 ≤ k ∧ k < (n : Int)) (hdg : decode cc pc = .ok (.daload, 1))
    (kk : P → ts_V p l e R s m args below meth c g nL ck sk Q (pc + 1) lv (.double (M.2.2 a k) :: st) M) : P → ts_V p l e R s m args below meth c g nL ck sk Q pc lv (ts_v x :: .ref (ts_ad g a) :: st) M := fun h => by subst hk; exact ts_dald C ha hG hdg kk ⟨hin, h⟩
theorem ts_iastc {P : ts_M → Prop} {a n : Nat} {x y k : Int} (C : ts_C p l s m args meth c g cc own nL ret) (ha : a < 177) (hG : ∀ f h d, ts_G g a f h d = ts_ia g n f) (hk : ts_w x = k) (hin : 0 ≤ k ∧ k < (n : Int)) (hdg : decode cc pc = .ok (.iastore, 1))
    (kk : ∀ M1, P M1 → ts_V p l e R s m args below meth c g nL ck sk Q (pc + 1) lv st M1) : (∀ M1, M1 = ts_si M a k y → P M1) → ts_V p l e R s m args below meth c g nL ck sk Q pc lv (ts_v y :: ts_v x :: .ref (ts_ad g a) :: st) M := fun h => by subst hk; exact ts_iast C ha hG hdg kk ⟨hin, h⟩
theorem ts_lastc {P : ts_M → Prop} {a n : Nat} {x k : Int} {y : Int64} (C : ts_C p l s m args meth c g cc own nL ret) (ha : a < 177) (hG : ∀ f h d, ts_G g a f h d = ts_la g n h) (hk : ts_w x = k) (hin : 0 ≤ k ∧ k < (n : Int)) (hdg : decode cc pc = .ok (.lastore, 1))
    (kk : ∀ M1, P M1 → ts_V p l e R s m args below meth c g nL ck sk Q (pc + 1) lv st M1) : (∀ M1, M1 = ts_sl M a k y → P M1) → ts_V p l e R s m args below meth c g nL ck sk Q pc lv (.long y :: ts_v x :: .ref (ts_ad g a) :: st) M := fun h => by subst hk; exact ts_last C ha hG hdg kk ⟨hin, h⟩
theorem ts_dastc {P : ts_M → Prop} {a n : Nat} {x k : Int} {y : UInt64} (C : ts_C p l s m args meth c g cc own nL ret) (ha : a < 177) (hG : ∀ f h d, ts_G g a f h d = ts_da g n d) (hk : ts_w x = k) (hin : 0 ≤ k ∧ k < (n : Int)) (hdg : decode cc pc = .ok (.dastore, 1))
    (kk : ∀ M1, P M1 → ts_V p l e R s m args below meth c g nL ck sk Q (pc + 1) lv st M1) : (∀ M1, M1 = ts_sd M a k y → P M1) → ts_V p l e R s m args below meth c g nL ck sk Q pc lv (.double y :: ts_v x :: .ref (ts_ad g a) :: st) M := fun h => by subst hk; exact ts_dast C ha hG hdg kk ⟨hin, h⟩
theorem ts_idivc {x y : Int} (C : ts_C p l s m args meth c g cc own nL ret) (hy : ¬ ts_w y = 0) (hdg : decode cc pc = .ok (.idiv, 1))
    (kk : P → ts_V p l e R s m args below meth c g nL ck sk Q (pc + 1) lv (ts_v (ts_div x y) :: st) M) : P → ts_V p l e R s m args below meth c g nL ck sk Q pc lv (ts_v y :: ts_v x :: st) M := fun h => ts_idiv C hdg kk ⟨hy, h⟩
theorem ts_iremc {x y : Int} (C : ts_C p l s m args meth c g cc own nL ret) (hy : ¬ ts_w y = 0) (hdg : decode cc pc = .ok (.irem, 1))
    (kk : P → ts_V p l e R s m args below meth c g nL ck sk Q (pc + 1) lv (ts_v (ts_rem x y) :: st) M) : P → ts_V p l e R s m args below meth c g nL ck sk Q pc lv (ts_v y :: ts_v x :: st) M := fun h => ts_irem C hdg kk ⟨hy, h⟩
/-- switches: one case after the other -/
theorem ts_case {P1 P2 : Prop} {x x' : Int} (hx : ts_w x = x') (k : Int) (h1 : ts_w x = k → P1 → ts_V p l e R s m args below meth c g nL ck sk Q pc lv (ts_v x :: st) M) (h2 : ¬ ts_w x = k → P2 → ts_V p l e R s m args below meth c g nL ck sk Q pc lv (ts_v x :: st) M) : ((x' = k → P1) ∧ (¬ x' = k → P2)) → ts_V p l e R s m args below meth c g nL ck sk Q pc lv (ts_v x :: st) M := fun h => by
  subst hx
  by_cases q : ts_w x = k
  · exact h1 q (h.1 q)
  · exact h2 q (h.2 q)
theorem ts_tabIn {x : Int} {dflt lo hi : Int} {offs : Array Int} {len : Nat} (C : ts_C p l s m args meth c g cc own nL ret) (k : Int) (hx : ts_w x = k) {off : Int} (tgt : Nat) (hdg : decode cc pc = .ok (.tableswitch dflt lo hi offs, len)) (h1 : ¬ k < lo) (h2 : ¬ hi < k) (ho : offs[(k - lo).toNat]? = some off) (ht : (pc : Int) + off = (tgt : Int))
    (kk : P → ts_V p l e R s m args below meth c g nL ck sk Q tgt lv st M) : P → ts_V p l e R s m args below meth c g nL ck sk Q pc lv (ts_v x :: st) M := fun h X H locs ls hB hP hD hS hl => by
  subst hx
  exact lv_tableIn C.1 C.2.1 hdg h1 h2 ho ht (kk h X H locs ls hB hP hD hS hl)
theorem ts_tabOut {x : Int} {dflt lo hi : Int} {offs : Array Int} {len : Nat} (C : ts_C p l s m args meth c g cc own nL ret) (tgt : Nat) (hdg : decode cc pc = .ok (.tableswitch dflt lo hi offs, len)) (h1 : ts_w x < lo ∨ hi < ts_w x) (ht : (pc : Int) + dflt = (tgt : Int))
    (kk : P → ts_V p l e R s m args below meth c g nL ck sk Q tgt lv st M) : P → ts_V p l e R s m args below meth c g nL ck sk Q pc lv (ts_v x :: st) M := fun h X H locs ls hB hP hD hS hl => lv_tableOut C.1 C.2.1 hdg h1 ht (kk h X H locs ls hB hP hD hS hl)
theorem ts_lookup {x : Int} {dflt : Int} {ps : Array (Int × Int)} {len : Nat} (C : ts_C p l s m args meth c g cc own nL ret) (k off : Int) (hx : ts_w x = k) (tgt : Nat) (hdg : decode cc pc = .ok (.lookupswitch dflt ps, len)) (hp : (ps.toList.zip (ps.toList.drop 1)).all (fun (a, next) => a.1 < next.1) = true) (ho : Op.lookupswitch.offset ps.toList dflt k = off) (ht : (pc : Int) + off = (tgt : Int))
    (kk : P → ts_V p l e R s m args below meth c g nL ck sk Q tgt lv st M) : P → ts_V p l e R s m args below meth c g nL ck sk Q pc lv (ts_v x :: st) M := fun h X H locs ls hB hP hD hS hl => by
  subst hx
  exact lv_lookup C.1 C.2.1 hdg hp ho ht (kk h X H locs ls hB hP hD hS hl)
end TSK2
