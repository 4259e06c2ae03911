/-- a body of a class that has rows of natives, but none for this method -/
theorem ts_Con.ofF {l : Launch} {g : ts_W} {y : MethodName} {cc : ByteArray} {maxL : Nat} {ret : Option FieldType} {d mc ms : Nat} {av : List Value} {M : ts_M} {Qr : Option Value → ts_M → Prop} (hl : l.stackTraces = false) (hy : plainFor y = true) (hn : (lg_sl av).length ≤ maxL)
    (body : ∀ p e s m args below meth c, ts_C p l s m args meth c g cc y.cls maxL ret → ts_V p l e (ts_rm d mc ms) s m args below meth c g maxL 0 0 (MQ below (ts_Q g Qr) args s mc ms (ts_A g)) 0 (lv_args 0 av) [] M) : ts_Con l g y cc maxL ret d mc ms av M Qr := by
  unfold ts_Con Met
  refine MetFree.of_bodySF (code := cc) (maxLocals := maxL) (ret := ret) hy ?_ ?_
  · intro args s m h hn
    obtain ⟨meth, c, h1, h2, h3, h4, h5, h6, -, -⟩ := Cond.code_spec hn (atoms_spec (ws := Cond.code y cc maxL ret :: lw_good) h _ List.mem_cons_self)
    exact ⟨meth, c, h1, h2, h3, h4, h5, h6⟩
  · intro p e s m args below meth c s₁ B hml hv _
    have hh0 : s₁.heap = s.heap := by rw [B.state]; rfl
    obtain ⟨hv0, ⟨X, hB, hP, hD⟩, hK, hw, hh, hA⟩ := hv
    have hts := atoms_spec (ws := Cond.code y cc maxL ret :: lw_good) B.pre
    have hC : ts_C p l s m args meth c g cc y.cls maxL ret := ⟨B.exec, B.bytes, hml, findClass_of_methodNamed B.named, fun w h => hts w (List.mem_cons_of_mem _ h), B.returns, B.notSynchronized, hK, hw, hh, hA, hl⟩
    subst hv0
    have hl0 := lv_entry av (n := maxL) hn
    obtain ⟨t, a1, o, b1, b2, b3⟩ := body p e s m _ below meth c hC X s.heap [] _ hB hP hD va_S.rf hl0 s₁ hh0 (Stand.of_body B)
    rw [← lg_entry_eq] at a1
    exact ⟨t, o, a1, b1, b2, ⟨b3.1, b3.2⟩⟩
