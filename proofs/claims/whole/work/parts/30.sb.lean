theorem qs_418 : Cond.lays "java/lang/StringBuilder" "java/lang/AbstractStringBuilder" "value" "[B" ∈ lw_good := ts_gd (List.mem_of_getElem? (i := 418) (by decide +kernel)) (by decide +kernel)
theorem qs_420 : Cond.lays "java/lang/StringBuilder" "java/lang/AbstractStringBuilder" "coder" "B" ∈ lw_good := ts_gd (List.mem_of_getElem? (i := 420) (by decide +kernel)) (by decide +kernel)
theorem qs_422 : Cond.lays "java/lang/StringBuilder" "java/lang/AbstractStringBuilder" "maybeLatin1" "Z" ∈ lw_good := ts_gd (List.mem_of_getElem? (i := 422) (by decide +kernel)) (by decide +kernel)
theorem qs_424 : Cond.lays "java/lang/StringBuilder" "java/lang/AbstractStringBuilder" "count" "I" ∈ lw_good := ts_gd (List.mem_of_getElem? (i := 424) (by decide +kernel)) (by decide +kernel)
theorem inJ4 : ∀ w ∈ u_ws RJ4 TJ4 4, w ∈ lw_good := by
  show ∀ w ∈ [Cond.lays "java/lang/StringBuilder" "java/lang/AbstractStringBuilder" "value" "[B", Cond.lays "java/lang/StringBuilder" "java/lang/AbstractStringBuilder" "coder" "B", Cond.lays "java/lang/StringBuilder" "java/lang/AbstractStringBuilder" "maybeLatin1" "Z", Cond.lays "java/lang/StringBuilder" "java/lang/AbstractStringBuilder" "count" "I"], w ∈ lw_good
  exact List.forall_mem_cons.mpr ⟨qs_418, List.forall_mem_cons.mpr ⟨qs_420, List.forall_mem_cons.mpr ⟨qs_422, List.forall_mem_cons.mpr ⟨qs_424, fun _ h => absurd h List.not_mem_nil⟩⟩⟩⟩
theorem qs_427 : Cond.arrayClass .byte ∈ lw_good := ts_gd (List.mem_of_getElem? (i := 427) (by decide +kernel)) (by decide +kernel)
theorem ts_ws_eq {g : ts_W} {M M' : ts_M} (h : ∀ b, b < 177 → M'.1 b = M.1 b) (h2 : M'.2 = M.2) : ts_ws g M' = ts_ws g M := by
  unfold ts_ws
  apply List.map_congr_left
  intro a ha
  rw [h a (List.mem_range.mp ha), h2]
theorem ts_ws_len {g : ts_W} {M : ts_M} : (ts_ws g M).length = 177 := by simp [ts_ws]
theorem ts_xbg {g : ts_W} {M : ts_M} (k : Nat) {e : Nat × va_E} (h : (ts_XB g M)[k]? = some e) : (ts_ws g M ++ ts_XB g M)[177 + k]? = some e := by
  rw [List.getElem?_append_right (by rw [ts_ws_len]; omega), ts_ws_len, show 177 + k - 177 = k by omega]
  exact h
theorem ts_xbs {g : ts_W} {M M' : ts_M} (k : Nat) {e : Nat × va_E} (h : ∀ b, b < 177 → M'.1 b = M.1 b) (h2 : M'.2 = M.2) (hx : (ts_XB g M).set k e = ts_XB g M') : (ts_ws g M ++ ts_XB g M).set (177 + k) e = ts_ws g M' ++ ts_XB g M' := by
  rw [List.set_append_right _ _ (by rw [ts_ws_len]; omega), ts_ws_len, show 177 + k - 177 = k by omega, hx, ts_ws_eq h h2]
def ts_new (M : ts_M) (q n : Int) : ts_M := (fun b j => if b = 177 ∧ j = 4 then q else if b = 177 ∧ j = 5 then n else if b = 178 ∧ j < 0 then 0 else M.1 b j, M.2)
def ts_cpB (M : ts_M) (n : Int) : ts_M := (fun b j => if b = 178 ∧ j < 0 ∧ -1 - j < n then M.1 178 (-1 - j) else M.1 b j, M.2)
def ts_swp (M : ts_M) : ts_M := (fun b j => if b = 177 ∧ j = 3 then M.1 177 4 else if b = 177 ∧ j = 2 then M.1 177 5 else if b = 177 ∧ j = 4 then -1 else if b = 178 then (if 0 ≤ j then M.1 178 (-1 - j) else 0) else M.1 b j, M.2)
theorem ts_new_178 {M : ts_M} {q n j : Int} : (ts_new M q n).1 178 j = if j < 0 then 0 else M.1 178 j := by simp [ts_new]
theorem ts_cpB_178 {M : ts_M} {n j : Int} : (ts_cpB M n).1 178 j = if j < 0 ∧ -1 - j < n then M.1 178 (-1 - j) else M.1 178 j := by simp [ts_cpB]
theorem ts_nar_b (y : Int) : -128 ≤ ts_nar .byte y ∧ ts_nar .byte y < 128 := by
  have e : ts_nar .byte y = (ts_I y).toInt8.toInt := by
    show ((ts_I y).toInt8.toInt32).toInt = _
    rw [Int8.toInt_toInt32]
  rw [e]
  exact ⟨Int8.le_toInt _, Int8.toInt_lt _⟩
abbrev ts_Rq (Q : Int → ts_M → Prop) : Option Value → ts_M → Prop := fun v M1 => ∃ r : Int, v = some (.ref r.toNat) ∧ Q r M1
abbrev ts_Rb (g : ts_W) (Q : ts_M → Prop) : Option Value → ts_M → Prop := fun v M1 => v = some (.ref (ts_ad g 177)) ∧ Q M1
section TSB
variable {p : Program} {l : Launch} {e : Env} {R : Room} {s : State} {m : MethodId} {args : Array Value} {below : List Frame} {meth : Method} {c : Code} {Q : State → Prop}
variable {g : ts_W} {cc : ByteArray} {own : String} {nL ck sk : Nat} {ret : Option FieldType} {P P2 : Prop} {pc : Nat} {lv : List (Nat × Value)} {st : List Value} {M : ts_M} {index : Nat}
theorem ts_sbgV {P : Int → Prop} (C : ts_C p l s m args meth c g cc own nL ret) (hw : Cond.fieldLink own index RJ5 "value" "[B" ∈ lw_good) (hdg : decode cc pc = .ok (.getfield index, 3))
    (kk : ∀ q : Int, P q → ts_V p l e R s m args below meth c g nL ck sk Q (pc + 3) lv (.ref q.toNat :: st) M) : (∀ q : Int, q = M.1 177 3 → P q) → ts_V p l e R s m args below meth c g nL ck sk Q pc lv (.ref (ts_ad g 177) :: st) M := fun h X H locs ls hB hP hD hS hl => by
  obtain ⟨rfl, hr⟩ := hB
  exact va_get C.1 C.2.1 C.2.2.2.2.1 inJ4 C.2.2.2.1 C.2.2.2.2.2.2.2.1 hP 177 (ts_xbg 0 rfl) rfl 0 (by decide) (C.2.2.2.2.1 _ hw) (fun _ q => q) rfl hdg (kk _ (h _ rfl) _ H locs ls ⟨rfl, hr⟩ hP hD hS hl)
theorem ts_sbgc (C : ts_C p l s m args meth c g cc own nL ret) (hw : Cond.fieldLink own index RJ5 "coder" "B" ∈ lw_good) (hdg : decode cc pc = .ok (.getfield index, 3))
    (kk : P → ts_V p l e R s m args below meth c g nL ck sk Q (pc + 3) lv (ts_v 0 :: st) M) : P → ts_V p l e R s m args below meth c g nL ck sk Q pc lv (.ref (ts_ad g 177) :: st) M := fun h X H locs ls hB hP hD hS hl => by
  obtain ⟨rfl, hr⟩ := hB
  exact va_get C.1 C.2.1 C.2.2.2.2.1 inJ4 C.2.2.2.1 C.2.2.2.2.2.2.2.1 hP 177 (ts_xbg 0 rfl) rfl 1 (by decide) (C.2.2.2.2.1 _ hw) (fun _ q => q) rfl hdg (kk h _ H locs ls ⟨rfl, hr⟩ hP hD hS hl)
theorem ts_sbgm (C : ts_C p l s m args meth c g cc own nL ret) (hw : Cond.fieldLink own index RJ5 "maybeLatin1" "Z" ∈ lw_good) (hdg : decode cc pc = .ok (.getfield index, 3))
    (kk : P → ts_V p l e R s m args below meth c g nL ck sk Q (pc + 3) lv (ts_v (M.1 177 1) :: st) M) : P → ts_V p l e R s m args below meth c g nL ck sk Q pc lv (.ref (ts_ad g 177) :: st) M := fun h X H locs ls hB hP hD hS hl => by
  obtain ⟨rfl, hr⟩ := hB
  exact va_get C.1 C.2.1 C.2.2.2.2.1 inJ4 C.2.2.2.1 C.2.2.2.2.2.2.2.1 hP 177 (ts_xbg 0 rfl) rfl 2 (by decide) (C.2.2.2.2.1 _ hw) (fun _ q => q) rfl hdg (kk h _ H locs ls ⟨rfl, hr⟩ hP hD hS hl)
theorem ts_sbgn (C : ts_C p l s m args meth c g cc own nL ret) (hw : Cond.fieldLink own index RJ5 "count" "I" ∈ lw_good) (hdg : decode cc pc = .ok (.getfield index, 3))
    (kk : P → ts_V p l e R s m args below meth c g nL ck sk Q (pc + 3) lv (ts_v (M.1 177 0) :: st) M) : P → ts_V p l e R s m args below meth c g nL ck sk Q pc lv (.ref (ts_ad g 177) :: st) M := fun h X H locs ls hB hP hD hS hl => by
  obtain ⟨rfl, hr⟩ := hB
  exact va_get C.1 C.2.1 C.2.2.2.2.1 inJ4 C.2.2.2.1 C.2.2.2.2.2.2.2.1 hP 177 (ts_xbg 0 rfl) rfl 3 (by decide) (C.2.2.2.2.1 _ hw) (fun _ q => q) rfl hdg (kk h _ H locs ls ⟨rfl, hr⟩ hP hD hS hl)
theorem ts_sbpn {P : ts_M → Prop} {x : Int} (C : ts_C p l s m args meth c g cc own nL ret) (hw : Cond.fieldLink own index RJ5 "count" "I" ∈ lw_good) (hdg : decode cc pc = .ok (.putfield index, 3))
    (kk : ∀ M1, P M1 → ts_V p l e R s m args below meth c g nL ck sk Q (pc + 3) lv st M1) : (∀ M1, M1 = ts_si M 177 0 x → P M1) → ts_V p l e R s m args below meth c g nL ck sk Q pc lv (ts_v x :: .ref (ts_ad g 177) :: st) M := fun h X H locs ls hB hP hD hS hl => by
  obtain ⟨rfl, hr⟩ := hB
  have e : (ts_ws g M ++ ts_XB g M).set (177 + 0) (ts_ad g 177, .inr (1, ([.ref (M.1 177 3).toNat, .int 0, ts_v (M.1 177 1), ts_v (M.1 177 0)] : List Value).set 3 (ts_v x))) = ts_ws g (ts_si M 177 0 x) ++ ts_XB g (ts_si M 177 0 x) :=
    ts_xbs 0 (fun b hb => ts_si_ne (by omega)) rfl (by simp [ts_XB, ts_si])
  refine va_put C.1 C.2.1 C.2.2.2.2.1 inJ4 tyJ4 tyJ4_ok nmJ4 C.2.2.2.1 C.2.2.2.2.2.2.2.1 hP hD hS 177 (ts_xbg 0 rfl) rfl 3 (by decide) (C.2.2.2.2.1 _ hw) (fun _ q => q) rfl (ty := .int) rfl rfl rfl (by show 3 < 4; decide) hdg (fun H1 locs1 hP1 hD1 hS1 => ?_)
  rw [show 177 = 177 + 0 from rfl, e] at hP1 hD1
  exact kk _ (h _ rfl) _ H1 locs1 ls ⟨rfl, by rw [ts_si_ne (by decide)]; exact hr⟩ hP1 hD1 hS1 hl
theorem ts_sbpm {P : ts_M → Prop} {x : Int} (C : ts_C p l s m args meth c g cc own nL ret) (hx : ts_w x = 0 ∨ ts_w x = 1) (hw : Cond.fieldLink own index RJ5 "maybeLatin1" "Z" ∈ lw_good) (hdg : decode cc pc = .ok (.putfield index, 3))
    (kk : ∀ M1, P M1 → ts_V p l e R s m args below meth c g nL ck sk Q (pc + 3) lv st M1) : (∀ M1, M1 = ts_si M 177 1 x → P M1) → ts_V p l e R s m args below meth c g nL ck sk Q pc lv (ts_v x :: .ref (ts_ad g 177) :: st) M := fun h X H locs ls hB hP hD hS hl => by
  obtain ⟨rfl, hr⟩ := hB
  have e : (ts_ws g M ++ ts_XB g M).set (177 + 0) (ts_ad g 177, .inr (1, ([.ref (M.1 177 3).toNat, .int 0, ts_v (M.1 177 1), ts_v (M.1 177 0)] : List Value).set 2 (ts_v x))) = ts_ws g (ts_si M 177 1 x) ++ ts_XB g (ts_si M 177 1 x) :=
    ts_xbs 0 (fun b hb => ts_si_ne (by omega)) rfl (by simp [ts_XB, ts_si])
  refine va_put C.1 C.2.1 C.2.2.2.2.1 inJ4 tyJ4 tyJ4_ok nmJ4 C.2.2.2.1 C.2.2.2.2.2.2.2.1 hP hD hS 177 (ts_xbg 0 rfl) rfl 2 (by decide) (C.2.2.2.2.1 _ hw) (fun _ q => q) rfl (ty := .boolean) rfl (ts_bool hx).1 (ts_bool hx).2 (by show 2 < 4; decide) hdg (fun H1 locs1 hP1 hD1 hS1 => ?_)
  rw [show 177 = 177 + 0 from rfl, e] at hP1 hD1
  exact kk _ (h _ rfl) _ H1 locs1 ls ⟨rfl, by rw [ts_si_ne (by decide)]; exact hr⟩ hP1 hD1 hS1 hl
theorem ts_vlen (C : ts_C p l s m args meth c g cc own nL ret) {q : Int} (hdg : decode cc pc = .ok (.arraylength, 1))
    (kk : P → ts_V p l e R s m args below meth c g nL ck sk Q (pc + 1) lv (ts_v (M.1 177 2) :: st) M) : ((q = M.1 177 3 ∧ 0 ≤ M.1 177 2) ∧ P) → ts_V p l e R s m args below meth c g nL ck sk Q pc lv (.ref q.toNat :: st) M := fun h X H locs ls hB hP hD hS hl => by
  obtain ⟨rfl, hr⟩ := hB
  obtain ⟨⟨rfl, h0⟩, h⟩ := h
  exact va_alen C.1 C.2.1 C.2.2.2.2.2.2.2.1 hP 178 3 (ts_xbg 1 rfl) rfl (v := ts_I (M.1 177 2)) (by show Int32.ofNat (M.1 177 2).toNat = Int32.ofInt _; rw [← Int32.ofInt_eq_ofNat, Int.toNat_of_nonneg h0]) hdg (kk h _ H locs ls ⟨rfl, hr⟩ hP hD hS hl)
theorem ts_vld (C : ts_C p l s m args meth c g cc own nL ret) {q x : Int} (hdg : decode cc pc = .ok (.baload, 1))
    (kk : P → ts_V p l e R s m args below meth c g nL ck sk Q (pc + 1) lv (ts_v (M.1 178 (ts_w x)) :: st) M) : ((q = M.1 177 3 ∧ 0 ≤ ts_w x ∧ ts_w x < M.1 177 2) ∧ P) → ts_V p l e R s m args below meth c g nL ck sk Q pc lv (ts_v x :: .ref q.toNat :: st) M := fun h X H locs ls hB hP hD hS hl => by
  obtain ⟨rfl, hr⟩ := hB
  obtain ⟨⟨rfl, h0, h1⟩, h⟩ := h
  have hi := ts_ix (x := x) (n := (M.1 177 2).toNat) ⟨h0, by omega⟩
  exact va_bald C.1 C.2.1 C.2.2.2.2.2.2.2.1 hP 178 3 (ts_xbg 1 rfl) rfl hi.1 hdg (by rw [hi.2]; exact kk h _ H locs ls ⟨rfl, hr⟩ hP hD hS hl)
theorem ts_vst {P : ts_M → Prop} (C : ts_C p l s m args meth c g cc own nL ret) {q x y : Int} (hdg : decode cc pc = .ok (.bastore, 1))
    (kk : ∀ M1, P M1 → ts_V p l e R s m args below meth c g nL ck sk Q (pc + 1) lv st M1) : ((q = M.1 177 3 ∧ 0 ≤ ts_w x ∧ ts_w x < M.1 177 2) ∧ ∀ M1, M1 = ts_si M 178 (ts_w x) (ts_nar .byte y) → P M1) → ts_V p l e R s m args below meth c g nL ck sk Q pc lv (ts_v y :: ts_v x :: .ref q.toNat :: st) M := fun h X H locs ls hB hP hD hS hl => by
  obtain ⟨rfl, hr⟩ := hB
  obtain ⟨⟨rfl, h0, h1⟩, h⟩ := h
  have hi := ts_ix (x := x) (n := (M.1 177 2).toNat) ⟨h0, by omega⟩
  have e : (ts_ws g M ++ ts_XB g M).set (177 + 1) ((M.1 177 3).toNat, .inl (g.2.1 3, (M.1 177 2).toNat, .inl (upd (fun j : Nat => ts_I (M.1 178 (j : Int))) (ts_I x).toNatClampNeg (vp_nar .byte (ts_I y))))) = ts_ws g (ts_si M 178 (ts_w x) (ts_nar .byte y)) ++ ts_XB g (ts_si M 178 (ts_w x) (ts_nar .byte y)) := by
    refine ts_xbs 1 (fun b hb => ts_si_ne (by omega)) rfl ?_
    rw [← ts_upI hi.2 (y := ts_nar .byte y) (Int32.ofInt_toInt _)]
    have e1 : ∀ j : Nat, (ts_si M 178 (ts_w x) (ts_nar .byte y)).1 178 (-1 - (j : Int)) = M.1 178 (-1 - (j : Int)) := fun j => by
      show (ite _ _ _ : Int) = _
      rw [if_neg (by omega)]
    have e2 : ∀ j : Nat, (ts_si M 178 (ts_w x) (ts_nar .byte y)).1 178 (j : Int) = ts_fu (M.1 178) (ts_w x) (ts_nar .byte y) (j : Int) := fun j => by rw [ts_si_eq]
    have e3 : (ts_si M 178 (ts_w x) (ts_nar .byte y)).1 177 = M.1 177 := ts_si_ne (by decide)
    unfold ts_XB
    simp only [e1, e2, e3, List.set_cons_succ, List.set_cons_zero]
  refine va_bast C.1 C.2.1 C.2.2.2.2.2.2.2.1 hP hD hS 178 3 (ts_xbg 1 rfl) rfl hi.1 hdg (fun H1 locs1 hP1 hD1 hS1 => ?_)
  rw [show 178 = 177 + 1 from rfl, e] at hP1 hD1
  refine kk _ (h _ rfl) _ H1 locs1 ls ⟨rfl, fun j => ?_⟩ hP1 hD1 hS1 hl
  show _ ≤ (ite _ _ _ : Int) ∧ (ite _ _ _ : Int) < _
  split
  · exact ts_nar_b y
  · exact hr j
theorem ts_getDT (C : ts_C p l s m args meth c g cc own nL ret) (hw : Cond.fieldLink own index RJ6 "DigitTens" "[B" ∈ lw_good) (hdg : decode cc pc = .ok (.getstatic index, 3))
    (kk : P → ts_V p l e R s m args below meth c g nL ck sk Q (pc + 3) lv (.ref (ts_sx g 142) :: st) M) : P → ts_V p l e R s m args below meth c g nL ck sk Q pc lv st M := fun h X H locs ls hB hP hD hS hl =>
  va_gets C.1 C.2.1 C.2.2.2.2.2.2.2.2.2.1.2.2.2.2.2.2.2.2.2.1.1 hS C.2.2.2.1 (C.2.2.2.2.1 _ hw) (fun _ q => q) hdg (kk h X H locs ls hB hP hD hS hl)
theorem ts_getDO (C : ts_C p l s m args meth c g cc own nL ret) (hw : Cond.fieldLink own index RJ6 "DigitOnes" "[B" ∈ lw_good) (hdg : decode cc pc = .ok (.getstatic index, 3))
    (kk : P → ts_V p l e R s m args below meth c g nL ck sk Q (pc + 3) lv (.ref (ts_sx g 143) :: st) M) : P → ts_V p l e R s m args below meth c g nL ck sk Q pc lv st M := fun h X H locs ls hB hP hD hS hl =>
  va_gets C.1 C.2.1 C.2.2.2.2.2.2.2.2.2.1.2.2.2.2.2.2.2.2.2.2.1.1 hS C.2.2.2.1 (C.2.2.2.2.1 _ hw) (fun _ q => q) hdg (kk h X H locs ls hB hP hD hS hl)
theorem ts_ldDT (C : ts_C p l s m args meth c g cc own nL ret) {x : Int} (hdg : decode cc pc = .ok (.baload, 1))
    (kk : P → ts_V p l e R s m args below meth c g nL ck sk Q (pc + 1) lv (ts_v (48 + ts_w x / 10) :: st) M) : ((0 ≤ ts_w x ∧ ts_w x < 100) ∧ P) → ts_V p l e R s m args below meth c g nL ck sk Q pc lv (ts_v x :: .ref (ts_sx g 142) :: st) M := fun h X H locs ls hB hP hD hS hl =>
  va_tb (v := ts_v (48 + ts_w x / 10)) C.1 C.2.1 C.2.2.2.2.2.2.2.2.2.1.2.2.2.2.2.2.2.2.2.1.2 hS (ts_ix (n := 100) h.1).1 (by
    have he := (ts_ix (n := 100) h.1).2
    show Value.int (Int32.ofNat _) = .int (Int32.ofInt _)
    rw [← Int32.ofInt_eq_ofNat]
    congr 2
    omega) hdg (kk h.2 X H locs ls hB hP hD hS hl)
theorem ts_ldDO (C : ts_C p l s m args meth c g cc own nL ret) {x : Int} (hdg : decode cc pc = .ok (.baload, 1))
    (kk : P → ts_V p l e R s m args below meth c g nL ck sk Q (pc + 1) lv (ts_v (48 + ts_w x % 10) :: st) M) : ((0 ≤ ts_w x ∧ ts_w x < 100) ∧ P) → ts_V p l e R s m args below meth c g nL ck sk Q pc lv (ts_v x :: .ref (ts_sx g 143) :: st) M := fun h X H locs ls hB hP hD hS hl =>
  va_tb (v := ts_v (48 + ts_w x % 10)) C.1 C.2.1 C.2.2.2.2.2.2.2.2.2.1.2.2.2.2.2.2.2.2.2.2.1.2 hS (ts_ix (n := 100) h.1).1 (by
    have he := (ts_ix (n := 100) h.1).2
    show Value.int (Int32.ofNat _) = .int (Int32.ofInt _)
    rw [← Int32.ofInt_eq_ofNat]
    congr 2
    omega) hdg (kk h.2 X H locs ls hB hP hD hS hl)
theorem ts_newB {P : Int → ts_M → Prop} (C : ts_C p l s m args meth c g cc own nL ret) {x : Int} (hdg : decode cc pc = .ok (.newarray .byte, 2)) (hf : ck + 1 ≤ R.cells ∧ sk + 70 ≤ R.slots)
    (kk : ∀ (q : Int) M1, P q M1 → ts_V p l e R s m args below meth c g nL (ck + 1) (sk + 70) Q (pc + 2) lv (.ref q.toNat :: st) M1) : ((M.1 177 4 < 0 ∧ 0 ≤ ts_w x ∧ ts_w x ≤ 70) ∧ ∀ (q : Int) M1, 0 ≤ q → M1 = ts_new M q (ts_w x) → P q M1) → ts_V p l e R s m args below meth c g nL ck sk Q pc lv (ts_v x :: st) M := fun h X H locs ls hB hP hD hS hl => by
  obtain ⟨rfl, hr⟩ := hB
  obtain ⟨⟨h4, h0, h1⟩, h⟩ := h
  have hn : ¬ ts_I x < 0 := fun q => by have := ts_I_lt0.mp q; omega
  have he : (((ts_I x).toNatClampNeg : Nat) : Int) = ts_w x := Int.toNat_of_nonneg h0
  refine va_newa (atype := .byte) (a0 := ((ts_w x).toNat, .inl (fun _ => 0))) C.1 C.2.1 (C.2.2.2.2.1 _ qs_427) rfl C.2.2.2.2.2.2.2.1 hP hD hS C.2.2.2.2.2.2.2.2.2.2.1 (fun cA => rfl) hn (by omega) (by show _ * 1 ≤ _; omega) hf.1 (by omega) hdg (fun q cA H1 hK1 hP1 hD1 hS1 => ?_)
  have hc : cA = g.2.1 3 := by
    have k1 := (hK1.2 7 (cA, .byte) rfl).2
    have k2 := (C.2.2.2.2.2.2.2.1.2 3 (g.2.1 3, .byte) rfl).2
    exact Option.some.inj ((show s.vm.findClass _ = some cA from k1).symm.trans k2)
  subst hc
  have e3 : (ts_new M (q : Int) (ts_w x)).1 177 = fun j => if j = 4 then (q : Int) else if j = 5 then ts_w x else M.1 177 j := by funext j; simp [ts_new]
  have e4 : ∀ j : Nat, (ts_new M (q : Int) (ts_w x)).1 178 (j : Int) = M.1 178 (j : Int) := fun j => by
    rw [ts_new_178, if_neg (by omega)]
  have e5 : ∀ j : Nat, (ts_new M (q : Int) (ts_w x)).1 178 (-1 - (j : Int)) = 0 := fun j => by
    rw [ts_new_178, if_pos (by omega)]
  have e : ts_ws g M ++ ts_XB g M ++ [(q, .inl (g.2.1 3, ((ts_w x).toNat, .inl (fun _ => 0))))] = ts_ws g (ts_new M (q : Int) (ts_w x)) ++ ts_XB g (ts_new M (q : Int) (ts_w x)) := by
    rw [ts_ws_eq (M := M) (M' := ts_new M (q : Int) (ts_w x)) (fun b hb => by funext j; simp [ts_new, show b ≠ 177 by omega, show b ≠ 178 by omega]) rfl, List.append_assoc]
    congr 1
    unfold ts_XB
    rw [e3]
    simp only [e4, e5, if_pos h4]
    simp [show ¬ ((q : Int) < 0) by omega]
    rfl
  rw [e] at hP1 hD1
  have k9 := kk (q : Int) _ (h (q : Int) _ (by omega) rfl) _ H1 locs ls ⟨rfl, fun j => ?_⟩ hP1 hD1 hS1 hl
  · exact W.widen (Nat.le_refl _) (by omega) k9
  · rw [ts_new_178]
    split
    · omega
    · exact hr j
theorem ts_cpyB {P : ts_M → Prop} (C : ts_C p l s m args meth c g cc own nL ret) {q q2 x : Int} (hw : Cond.methodLink own index arraycopyName ∈ lw_good) (hw1 : Cond.native arraycopyName ∈ lw_good) (hw2 : Cond.static arraycopyName ∈ lw_good) (hw3 : Cond.initialized "java/lang/System" ∈ lw_good) (hrm : (st.map fun v => v.category).sum ≤ 8) (hfr : 1 ≤ R.frames) (hlo : 8 + (nativeFrameWords "java/lang/System" "arraycopy" 5 + 11) ≤ R.locals) (hdg : decode cc pc = .ok (.invokestatic index, 3))
    (kk : ∀ M1, P M1 → ts_V p l e R s m args below meth c g nL ck sk Q (pc + 3) lv st M1) : ((q = M.1 177 3 ∧ q2 = M.1 177 4 ∧ 0 ≤ q2 ∧ 0 ≤ ts_w x ∧ ts_w x ≤ M.1 177 2 ∧ ts_w x ≤ M.1 177 5) ∧ ∀ M1, M1 = ts_cpB M (ts_w x) → P M1) → ts_V p l e R s m args below meth c g nL ck sk Q pc lv (ts_v x :: ts_v 0 :: .ref q2.toNat :: ts_v 0 :: .ref q.toNat :: st) M := fun h X H locs ls hB hP hD hS hl => by
  obtain ⟨rfl, hr⟩ := hB
  obtain ⟨⟨rfl, rfl, hq2, h0, h1, h2⟩, h⟩ := h
  have hn : ¬ ts_I x < 0 := fun q => by have := ts_I_lt0.mp q; omega
  have he : (((ts_I x).toNatClampNeg : Nat) : Int) = ts_w x := Int.toNat_of_nonneg h0
  have e0 : (ts_I 0).toNatClampNeg = 0 := by decide
  have hx2 : (ts_XB g M)[2]? = some ((M.1 177 4).toNat, .inl (g.2.1 3, (M.1 177 5).toNat, .inl (fun j : Nat => ts_I (M.1 178 (-1 - (j : Int)))))) := by
    unfold ts_XB
    rw [if_neg (by omega)]
    rfl
  have e3 : (ts_cpB M (ts_w x)).1 177 = M.1 177 := by funext j; simp [ts_cpB]
  have e4 : ∀ j : Nat, (ts_cpB M (ts_w x)).1 178 (j : Int) = M.1 178 (j : Int) := fun j => by
    rw [ts_cpB_178, if_neg (by omega)]
  have e5 : (fun j : Nat => ts_I ((ts_cpB M (ts_w x)).1 178 (-1 - (j : Int)))) = va_cpy (fun j : Nat => ts_I (M.1 178 (j : Int))) (fun j : Nat => ts_I (M.1 178 (-1 - (j : Int)))) 0 0 (ts_I x).toNatClampNeg := by
    funext j
    rw [ts_cpB_178]
    by_cases hj : (j : Int) < ts_w x
    · rw [va_cpy, if_pos ⟨by omega, by omega⟩, if_pos ⟨by omega, by omega⟩, show -1 - (-1 - (j : Int)) = (j : Int) by omega, show 0 + (j - 0) = j by omega]
    · rw [va_cpy, if_neg (by omega), if_neg (by omega)]
  have e : (ts_ws g M ++ ts_XB g M).set (177 + 2) ((M.1 177 4).toNat, .inl (g.2.1 3, (M.1 177 5).toNat, .inl (va_cpy (fun j : Nat => ts_I (M.1 178 (j : Int))) (fun j : Nat => ts_I (M.1 178 (-1 - (j : Int)))) 0 0 (ts_I x).toNatClampNeg))) = ts_ws g (ts_cpB M (ts_w x)) ++ ts_XB g (ts_cpB M (ts_w x)) := by
    refine ts_xbs 2 (fun b hb => by funext j; simp [ts_cpB, show b ≠ 178 by omega]) rfl ?_
    unfold ts_XB
    rw [e3, if_neg (by omega), if_neg (by omega), e5]
    simp only [e4]
    rfl
  refine va_copyi C.1 C.2.1 (by rw [C.2.2.1, hl.1]) C.2.2.2.1 (C.2.2.2.2.1 _ hw) (C.2.2.2.2.1 _ hw1) (C.2.2.2.2.1 _ hw2) (C.2.2.2.2.1 _ hw3) C.2.2.2.2.2.2.2.1 hP hD hS 178 179 3 3 (ty := .byte) (ts_xbg 1 rfl) (ts_xbg 2 hx2) rfl rfl rfl (by decide) (by decide) hn (by rw [e0]; omega) (by rw [e0]; omega) (fun i hi => (ts_byte (by rw [ts_w_eq (by have := hr ((((ts_I 0).toNatClampNeg + i : Nat) : Nat) : Int); omega) (by have := hr ((((ts_I 0).toNatClampNeg + i : Nat) : Nat) : Int); omega)]; exact hr _)).2) hfr (by omega) hdg (fun H1 locs1 hP1 hD1 hS1 => ?_)
  rw [e0] at hP1 hD1
  rw [show 179 = 177 + 2 from rfl, e] at hP1 hD1
  refine kk _ (h _ rfl) _ H1 locs1 ls ⟨rfl, fun j => ?_⟩ hP1 hD1 hS1 hl
  rw [ts_cpB_178]
  split
  · exact hr _
  · exact hr j

theorem ts_drop {D : va_G} {cl : List vw_C} {A : Nat → Prop} {Lw : va_W} {x y z : Nat × va_E} {H : Heap} (hP : va_P D cl (Lw ++ [x, y, z]) H) (hD : va_D A (Lw ++ [x, y, z])) : va_P D cl (Lw ++ [x, z]) H ∧ va_D A (Lw ++ [x, z]) := by
  have key : ∀ (k : Nat) (q : Nat × va_E), (Lw ++ [x, z])[k]? = some q → (Lw ++ [x, y, z])[if k < Lw.length + 1 then k else k + 1]? = some q := by
    intro k q hq
    by_cases hk : k < Lw.length
    · rw [List.getElem?_append_left hk] at hq
      rw [if_pos (by omega), List.getElem?_append_left hk]
      exact hq
    · rw [List.getElem?_append_right (by omega)] at hq
      have hl := (List.getElem?_eq_some_iff.mp hq).1
      simp only [List.length_cons, List.length_nil] at hl
      by_cases h1 : k < Lw.length + 1
      · rw [if_pos h1, List.getElem?_append_right (by omega)]
        rw [show k - Lw.length = 0 by omega] at hq ⊢
        exact hq
      · rw [if_neg h1, List.getElem?_append_right (by omega)]
        rw [show k - Lw.length = 1 by omega] at hq
        rw [show k + 1 - Lw.length = 2 by omega]
        exact hq
  refine ⟨fun k q hk => hP _ q (key k q hk), fun i j p q hi hj hpq => ?_, fun k q hk => hD.2 _ q (key k q hk)⟩
  have := hD.1 _ _ p q (key i p hi) (key j q hj) hpq
  split at this <;> split at this <;> omega
theorem ts_sbpV {P : ts_M → Prop} (C : ts_C p l s m args meth c g cc own nL ret) {q : Int} (hw : Cond.fieldLink own index RJ5 "value" "[B" ∈ lw_good) (hdg : decode cc pc = .ok (.putfield index, 3))
    (kk : ∀ M1, P M1 → ts_V p l e R s m args below meth c g nL ck sk Q (pc + 3) lv st M1) : ((q = M.1 177 4 ∧ 0 ≤ q) ∧ ∀ M1, M1 = ts_swp M → P M1) → ts_V p l e R s m args below meth c g nL ck sk Q pc lv (.ref q.toNat :: .ref (ts_ad g 177) :: st) M := fun h X H locs ls hB hP hD hS hl => by
  obtain ⟨rfl, hr⟩ := hB
  obtain ⟨⟨rfl, hq⟩, h⟩ := h
  refine va_put C.1 C.2.1 C.2.2.2.2.1 inJ4 tyJ4 tyJ4_ok nmJ4 C.2.2.2.1 C.2.2.2.2.2.2.2.1 hP hD hS 177 (ts_xbg 0 rfl) rfl 0 (by decide) (C.2.2.2.2.1 _ hw) (fun _ q => q) rfl (ty := .array .byte) rfl rfl rfl (by show 0 < 4; decide) hdg (fun H1 locs1 hP1 hD1 hS1 => ?_)
  have e : (ts_ws g M ++ ts_XB g M).set 177 (ts_ad g 177, .inr (1, ([.ref (M.1 177 3).toNat, .int 0, ts_v (M.1 177 1), ts_v (M.1 177 0)] : List Value).set 0 (.ref (M.1 177 4).toNat))) = ts_ws g M ++ [(ts_ad g 177, .inr (1, [.ref (M.1 177 4).toNat, .int 0, ts_v (M.1 177 1), ts_v (M.1 177 0)])), ((M.1 177 3).toNat, .inl (g.2.1 3, (M.1 177 2).toNat, .inl (fun j : Nat => ts_I (M.1 178 (j : Int))))), ((M.1 177 4).toNat, .inl (g.2.1 3, (M.1 177 5).toNat, .inl (fun j : Nat => ts_I (M.1 178 (-1 - (j : Int))))))] := by
    rw [List.set_append_right _ _ (by rw [ts_ws_len]; omega), ts_ws_len]
    unfold ts_XB
    rw [if_neg (by omega)]
    rfl
  rw [e] at hP1 hD1
  obtain ⟨hP2, hD2⟩ := ts_drop hP1 hD1
  have e3 : (ts_swp M).1 177 = fun j => if j = 3 then M.1 177 4 else if j = 2 then M.1 177 5 else if j = 4 then -1 else M.1 177 j := by funext j; simp [ts_swp]
  have e4 : ∀ j : Nat, (ts_swp M).1 178 (j : Int) = M.1 178 (-1 - (j : Int)) := fun j => by simp [ts_swp]
  have e5 : ts_ws g M ++ [(ts_ad g 177, .inr (1, [.ref (M.1 177 4).toNat, .int 0, ts_v (M.1 177 1), ts_v (M.1 177 0)])), ((M.1 177 4).toNat, .inl (g.2.1 3, (M.1 177 5).toNat, .inl (fun j : Nat => ts_I (M.1 178 (-1 - (j : Int))))))] = ts_ws g (ts_swp M) ++ ts_XB g (ts_swp M) := by
    rw [ts_ws_eq (M := M) (M' := ts_swp M) (fun b hb => by funext j; simp [ts_swp, show b ≠ 177 by omega, show b ≠ 178 by omega]) rfl]
    congr 1
  rw [e5] at hP2 hD2
  refine kk _ (h _ rfl) _ H1 locs1 ls ⟨rfl, fun j => ?_⟩ hP2 hD2 hS1 hl
  by_cases hj : 0 ≤ j
  · simp only [ts_swp, hj]
    simpa using hr (-1 - j)
  · simp [ts_swp, hj]
def ts_Yb (y : MethodName) (bytes : ByteArray) (maxL : Nat) (rt : Option FieldType) (n : Nat) : Prop :=
  Cond.instanceMethod y ∈ lw_good ∧ (Cond.selects RJ4 y y ∈ lw_good ∨ Cond.selects RJ4 y y ∈ ts_pv) ∧ Cond.initialized y.cls ∈ lw_good ∧ Cond.code y bytes maxL rt ∈ lw_good ∧ (y.cls ≠ "java/lang/invoke/MethodHandle" ∧ y.cls ≠ "java/lang/invoke/VarHandle") ∧ (parseMethodDescriptor y.desc).map (fun d => d.parameters.length) = some n
def ts_Yu (y : MethodName) (bytes : ByteArray) (maxL : Nat) (rt : Option FieldType) (n : Nat) : Prop :=
  Cond.instanceMethod y ∈ lw_good ∧ Cond.sameMethod y.cls y.cls y.name y.desc ∈ lw_good ∧ Cond.superclass RJ4 y.cls ∈ lw_good ∧ Cond.initialized y.cls ∈ lw_good ∧ Cond.code y bytes maxL rt ∈ lw_good ∧ y.name ≠ "<init>" ∧ (parseMethodDescriptor y.desc).map (fun d => d.parameters.length) = some n
theorem ts_callB {Pw : Prop} {Qr : Option Value → ts_M → Prop} {y : MethodName} {bytes : ByteArray} {maxL : Nat} {rt : Option FieldType} {d mc ms n : Nat} {stk : List Value} (C : ts_C p l s m args meth c g cc own nL ret) (As : List Value)
    (hcon : Pw → ts_Con l g y bytes maxL rt d mc ms (.ref (ts_ad g 177) :: As) M Qr) (hy : ts_Yb y bytes maxL rt n) (hw : Cond.methodLink own index y ∈ lw_good) (hn : As.length = n) (hstk : stk = As.reverse ++ .ref (ts_ad g 177) :: st) (hrm : (st.map fun v => v.category).sum ≤ 8) (hR : d + 1 ≤ R.frames ∧ 8 + (maxL + 11) + 40 * d ≤ R.locals) (hf : ck + mc ≤ R.cells ∧ sk + ms ≤ R.slots) (hdg : decode cc pc = .ok (.invokevirtual index, 3))
    (kk : ∀ (v : Option Value) (M1 : ts_M), Qr v M1 → ts_V p l e R s m args below meth c g nL (ck + mc) (sk + ms) Q (pc + 3) lv (v.toList ++ st) M1) : Pw → ts_V p l e R s m args below meth c g nL ck sk Q pc lv stk M := fun h => by
  obtain ⟨h0, h1, h2, h3, h4, h5⟩ := hy
  have hts := C.2.2.2.2.1
  refine ts_after (Qr := Qr) (mc := mc) (ms := ms) (av := (Value.ref (ts_ad g 177) :: As).toArray) (fun X H locs ls hB hP hD hS hl => ?_) kk
  have he : (ts_ws g M ++ X)[177]? = some (ts_ad g 177, .inr (1, [.ref (M.1 177 3).toNat, .int 0, ts_v (M.1 177 1), ts_v (M.1 177 0)])) := by rw [hB.1]; exact ts_xbg 0 rfl
  exact va_runV (C := RJ4) ⟨C.1, C.2.1, C.2.2.1, C.2.2.2.1, hts⟩ (hcon h) ⟨ts_cw hts h2 h3 h4 h5 hw hR, hts _ h0, h1.elim (fun z => hts _ z) (fun z => va_Nw.use rfl (C.2.2.2.2.2.2.2.2.1.2.2.2 _ z))⟩ ⟨ts_blind, va_recv C.2.2.2.2.2.2.2.1 hP (q := (RJ4, TJ4, 4)) rfl he, fun U hU hW => ⟨rfl, ts_At.mk C.2.2.2.2.2.2.2.1 C.2.2.2.2.2.2.2.2.1 C.2.2.2.2.2.2.2.2.2.1 C.2.2.2.2.2.2.2.2.2.2.1 hB hP hD hS hU hW⟩⟩ rfl hn hl.1 hstk (lv_room hrm) hdg hf
theorem ts_callU {Pw : Prop} {Qr : Option Value → ts_M → Prop} {y : MethodName} {bytes : ByteArray} {maxL : Nat} {rt : Option FieldType} {d mc ms n : Nat} {stk : List Value} (C : ts_C p l s m args meth c g cc RJ4 nL ret) (As : List Value)
    (hcon : Pw → ts_Con l g y bytes maxL rt d mc ms (.ref (ts_ad g 177) :: As) M Qr) (hy : ts_Yu y bytes maxL rt n) (hw : Cond.methodLink RJ4 index y ∈ lw_good) (hn : As.length = n) (hstk : stk = As.reverse ++ .ref (ts_ad g 177) :: st) (hrm : (st.map fun v => v.category).sum ≤ 8) (hR : d + 1 ≤ R.frames ∧ 8 + (maxL + 11) + 40 * d ≤ R.locals) (hf : ck + mc ≤ R.cells ∧ sk + ms ≤ R.slots) (hdg : decode cc pc = .ok (.invokespecial index, 3))
    (kk : ∀ (v : Option Value) (M1 : ts_M), Qr v M1 → ts_V p l e R s m args below meth c g nL (ck + mc) (sk + ms) Q (pc + 3) lv (v.toList ++ st) M1) : Pw → ts_V p l e R s m args below meth c g nL ck sk Q pc lv stk M := fun h => by
  obtain ⟨h0, h1, h2, h3, h4, h5, h6⟩ := hy
  have hts := C.2.2.2.2.1
  refine ts_after (Qr := Qr) (mc := mc) (ms := ms) (av := (Value.ref (ts_ad g 177) :: As).toArray) (fun X H locs ls hB hP hD hS hl => ?_) kk
  have he : (ts_ws g M ++ X)[177]? = some (ts_ad g 177, .inr (1, [.ref (M.1 177 3).toNat, .int 0, ts_v (M.1 177 1), ts_v (M.1 177 0)])) := by rw [hB.1]; exact ts_xbg 0 rfl
  exact va_runSU (C := RJ4) (C.2.2.2.2.2.2.2.1.1 1 (RJ4, TJ4, 4) rfl).2 ⟨C.1, C.2.1, C.2.2.1, C.2.2.2.1, hts⟩ (hcon h) ⟨⟨rfl, rfl, hR.1, hR.2, ts_pays h4 hts, List.mem_cons_self⟩, hts _ hw, hts _ h1, hts _ h2, hts _ h0, hts _ h3, hts _ h4, h5, ts_sig h6⟩ ⟨ts_blind, va_recv C.2.2.2.2.2.2.2.1 hP (q := (RJ4, TJ4, 4)) rfl he, fun U hU hW => ⟨rfl, ts_At.mk C.2.2.2.2.2.2.2.1 C.2.2.2.2.2.2.2.2.1 C.2.2.2.2.2.2.2.2.2.1 C.2.2.2.2.2.2.2.2.2.2.1 hB hP hD hS hU hW⟩⟩ rfl hn hl.1 hstk (lv_room hrm) hdg hf
theorem ts_callBi {Pw : Prop} {Pr : Int → ts_M → Prop} {y : MethodName} {bytes : ByteArray} {maxL : Nat} {rt : Option FieldType} {d mc ms n : Nat} {stk : List Value} (C : ts_C p l s m args meth c g cc own nL ret) (As : List Value)
    (hcon : Pw → ts_Con l g y bytes maxL rt d mc ms (.ref (ts_ad g 177) :: As) M (ts_Ri Pr)) (hy : ts_Yb y bytes maxL rt n) (hw : Cond.methodLink own index y ∈ lw_good) (hn : As.length = n) (hstk : stk = As.reverse ++ .ref (ts_ad g 177) :: st) (hrm : (st.map fun v => v.category).sum ≤ 8) (hR : d + 1 ≤ R.frames ∧ 8 + (maxL + 11) + 40 * d ≤ R.locals) (hf : ck + mc ≤ R.cells ∧ sk + ms ≤ R.slots) (hdg : decode cc pc = .ok (.invokevirtual index, 3))
    (kk : ∀ (r : Int) M1, Pr r M1 → ts_V p l e R s m args below meth c g nL (ck + mc) (sk + ms) Q (pc + 3) lv (ts_v r :: st) M1) : Pw → ts_V p l e R s m args below meth c g nL ck sk Q pc lv stk M :=
  ts_callB C As hcon hy hw hn hstk hrm hR hf hdg (fun v M1 h1 => by obtain ⟨r, rfl, h2⟩ := h1; exact kk r M1 h2)
theorem ts_callBv {Pw : Prop} {Pr : ts_M → Prop} {y : MethodName} {bytes : ByteArray} {maxL : Nat} {rt : Option FieldType} {d mc ms n : Nat} {stk : List Value} (C : ts_C p l s m args meth c g cc own nL ret) (As : List Value)
    (hcon : Pw → ts_Con l g y bytes maxL rt d mc ms (.ref (ts_ad g 177) :: As) M (ts_Rv Pr)) (hy : ts_Yb y bytes maxL rt n) (hw : Cond.methodLink own index y ∈ lw_good) (hn : As.length = n) (hstk : stk = As.reverse ++ .ref (ts_ad g 177) :: st) (hrm : (st.map fun v => v.category).sum ≤ 8) (hR : d + 1 ≤ R.frames ∧ 8 + (maxL + 11) + 40 * d ≤ R.locals) (hf : ck + mc ≤ R.cells ∧ sk + ms ≤ R.slots) (hdg : decode cc pc = .ok (.invokevirtual index, 3))
    (kk : ∀ M1, Pr M1 → ts_V p l e R s m args below meth c g nL (ck + mc) (sk + ms) Q (pc + 3) lv (st) M1) : Pw → ts_V p l e R s m args below meth c g nL ck sk Q pc lv stk M :=
  ts_callB C As hcon hy hw hn hstk hrm hR hf hdg (fun v M1 h1 => by obtain ⟨rfl, h2⟩ := h1; exact kk M1 h2)
theorem ts_callBb {Pw : Prop} {Pr : ts_M → Prop} {y : MethodName} {bytes : ByteArray} {maxL : Nat} {rt : Option FieldType} {d mc ms n : Nat} {stk : List Value} (C : ts_C p l s m args meth c g cc own nL ret) (As : List Value)
    (hcon : Pw → ts_Con l g y bytes maxL rt d mc ms (.ref (ts_ad g 177) :: As) M (ts_Rb g Pr)) (hy : ts_Yb y bytes maxL rt n) (hw : Cond.methodLink own index y ∈ lw_good) (hn : As.length = n) (hstk : stk = As.reverse ++ .ref (ts_ad g 177) :: st) (hrm : (st.map fun v => v.category).sum ≤ 8) (hR : d + 1 ≤ R.frames ∧ 8 + (maxL + 11) + 40 * d ≤ R.locals) (hf : ck + mc ≤ R.cells ∧ sk + ms ≤ R.slots) (hdg : decode cc pc = .ok (.invokevirtual index, 3))
    (kk : ∀ M1, Pr M1 → ts_V p l e R s m args below meth c g nL (ck + mc) (sk + ms) Q (pc + 3) lv (.ref (ts_ad g 177) :: st) M1) : Pw → ts_V p l e R s m args below meth c g nL ck sk Q pc lv stk M :=
  ts_callB C As hcon hy hw hn hstk hrm hR hf hdg (fun v M1 h1 => by obtain ⟨rfl, h2⟩ := h1; exact kk M1 h2)
theorem ts_callUi {Pw : Prop} {Pr : Int → ts_M → Prop} {y : MethodName} {bytes : ByteArray} {maxL : Nat} {rt : Option FieldType} {d mc ms n : Nat} {stk : List Value} (C : ts_C p l s m args meth c g cc RJ4 nL ret) (As : List Value)
    (hcon : Pw → ts_Con l g y bytes maxL rt d mc ms (.ref (ts_ad g 177) :: As) M (ts_Ri Pr)) (hy : ts_Yu y bytes maxL rt n) (hw : Cond.methodLink RJ4 index y ∈ lw_good) (hn : As.length = n) (hstk : stk = As.reverse ++ .ref (ts_ad g 177) :: st) (hrm : (st.map fun v => v.category).sum ≤ 8) (hR : d + 1 ≤ R.frames ∧ 8 + (maxL + 11) + 40 * d ≤ R.locals) (hf : ck + mc ≤ R.cells ∧ sk + ms ≤ R.slots) (hdg : decode cc pc = .ok (.invokespecial index, 3))
    (kk : ∀ (r : Int) M1, Pr r M1 → ts_V p l e R s m args below meth c g nL (ck + mc) (sk + ms) Q (pc + 3) lv (ts_v r :: st) M1) : Pw → ts_V p l e R s m args below meth c g nL ck sk Q pc lv stk M :=
  ts_callU C As hcon hy hw hn hstk hrm hR hf hdg (fun v M1 h1 => by obtain ⟨r, rfl, h2⟩ := h1; exact kk r M1 h2)
theorem ts_callUv {Pw : Prop} {Pr : ts_M → Prop} {y : MethodName} {bytes : ByteArray} {maxL : Nat} {rt : Option FieldType} {d mc ms n : Nat} {stk : List Value} (C : ts_C p l s m args meth c g cc RJ4 nL ret) (As : List Value)
    (hcon : Pw → ts_Con l g y bytes maxL rt d mc ms (.ref (ts_ad g 177) :: As) M (ts_Rv Pr)) (hy : ts_Yu y bytes maxL rt n) (hw : Cond.methodLink RJ4 index y ∈ lw_good) (hn : As.length = n) (hstk : stk = As.reverse ++ .ref (ts_ad g 177) :: st) (hrm : (st.map fun v => v.category).sum ≤ 8) (hR : d + 1 ≤ R.frames ∧ 8 + (maxL + 11) + 40 * d ≤ R.locals) (hf : ck + mc ≤ R.cells ∧ sk + ms ≤ R.slots) (hdg : decode cc pc = .ok (.invokespecial index, 3))
    (kk : ∀ M1, Pr M1 → ts_V p l e R s m args below meth c g nL (ck + mc) (sk + ms) Q (pc + 3) lv (st) M1) : Pw → ts_V p l e R s m args below meth c g nL ck sk Q pc lv stk M :=
  ts_callU C As hcon hy hw hn hstk hrm hR hf hdg (fun v M1 h1 => by obtain ⟨rfl, h2⟩ := h1; exact kk M1 h2)
theorem ts_callUb {Pw : Prop} {Pr : ts_M → Prop} {y : MethodName} {bytes : ByteArray} {maxL : Nat} {rt : Option FieldType} {d mc ms n : Nat} {stk : List Value} (C : ts_C p l s m args meth c g cc RJ4 nL ret) (As : List Value)
    (hcon : Pw → ts_Con l g y bytes maxL rt d mc ms (.ref (ts_ad g 177) :: As) M (ts_Rb g Pr)) (hy : ts_Yu y bytes maxL rt n) (hw : Cond.methodLink RJ4 index y ∈ lw_good) (hn : As.length = n) (hstk : stk = As.reverse ++ .ref (ts_ad g 177) :: st) (hrm : (st.map fun v => v.category).sum ≤ 8) (hR : d + 1 ≤ R.frames ∧ 8 + (maxL + 11) + 40 * d ≤ R.locals) (hf : ck + mc ≤ R.cells ∧ sk + ms ≤ R.slots) (hdg : decode cc pc = .ok (.invokespecial index, 3))
    (kk : ∀ M1, Pr M1 → ts_V p l e R s m args below meth c g nL (ck + mc) (sk + ms) Q (pc + 3) lv (.ref (ts_ad g 177) :: st) M1) : Pw → ts_V p l e R s m args below meth c g nL ck sk Q pc lv stk M :=
  ts_callU C As hcon hy hw hn hstk hrm hR hf hdg (fun v M1 h1 => by obtain ⟨rfl, h2⟩ := h1; exact kk M1 h2)
theorem ts_callSq {Pw : Prop} {P : Int → ts_M → Prop} {y : MethodName} {bytes : ByteArray} {maxL : Nat} {rt : Option FieldType} {d mc ms n index : Nat} {stk : List Value} (C : ts_C p l s m args meth c g cc own nL ret) (As : List Value)
    (hcon : Pw → ts_Con l g y bytes maxL rt d mc ms As M (ts_Rq P)) (hy : ts_Ys y bytes maxL rt n) (hw : Cond.methodLink own index y ∈ lw_good) (hn : As.length = n) (hstk : stk = As.reverse ++ st) (hrm : (st.map fun v => v.category).sum ≤ 8) (hR : d + 1 ≤ R.frames ∧ 8 + (maxL + 11) + 40 * d ≤ R.locals) (hf : ck + mc ≤ R.cells ∧ sk + ms ≤ R.slots) (hdg : decode cc pc = .ok (.invokestatic index, 3))
    (kk : ∀ (r : Int) M1, P r M1 → ts_V p l e R s m args below meth c g nL (ck + mc) (sk + ms) Q (pc + 3) lv (.ref r.toNat :: st) M1) : Pw → ts_V p l e R s m args below meth c g nL ck sk Q pc lv stk M :=
  ts_callS C As hcon hy hw hn hstk hrm hR hf hdg (fun v M1 h1 => by obtain ⟨r, rfl, h2⟩ := h1; exact kk r M1 h2)
theorem ts_qreti {r : Int} {Qf : Int → ts_M → Prop} {mc ms : Nat} (C : ts_C p l s m args meth c g cc own nL (some (.array .byte))) (hc : ck ≤ mc) (hs : sk ≤ ms) (hdg : decode cc pc = .ok (.areturn, 1)) : Qf r M → ts_V p l e R s m args below meth c g nL ck sk (MQ below (ts_Q g (ts_Rq Qf)) args s mc ms (ts_A g)) pc lv [.ref r.toNat] M := fun h => ts_aret C (Or.inr ⟨_, rfl⟩) (Or.inr ⟨_, rfl⟩) hc hs hdg ⟨r, rfl, h⟩
theorem ts_bbreti {Qf : ts_M → Prop} {mc ms : Nat} {E : String} (C : ts_C p l s m args meth c g cc own nL (some (.object E))) (hc : ck ≤ mc) (hs : sk ≤ ms) (hdg : decode cc pc = .ok (.areturn, 1)) : Qf M → ts_V p l e R s m args below meth c g nL ck sk (MQ below (ts_Q g (ts_Rb g Qf)) args s mc ms (ts_A g)) pc lv [.ref (ts_ad g 177)] M := fun h => ts_aret C (Or.inl ⟨_, rfl⟩) (Or.inr ⟨_, rfl⟩) hc hs hdg ⟨rfl, h⟩
theorem ts_wid {ck' sk' : Nat} (h1 : ck ≤ ck') (h2 : sk ≤ sk') (kk : P → ts_V p l e R s m args below meth c g nL ck' sk' Q pc lv st M) : P → ts_V p l e R s m args below meth c g nL ck sk Q pc lv st M := fun h X H locs ls a b c d f => W.widen h1 h2 (kk h X H locs ls a b c d f)
end TSB
theorem ts_lprc1 {A1 : Type} {F : (A1 → ts_M → Prop) → A1 → ts_M → Prop} {V : Nat → A1 → ts_M → Prop} (hs : ∀ (n : Nat) (k : A1 → ts_M → Prop), (∀ (x1 : A1) (M : ts_M), k x1 M → V n x1 M) → ∀ (x1 : A1) (M : ts_M), F k x1 M → V (n + 1) x1 M) : ∀ (n : Nat) (x1 : A1) (M : ts_M), ts_lp1 F n x1 M → V n x1 M
  | 0 => fun _ _ h => h.elim
  | n + 1 => hs n _ (ts_lprc1 hs n)
theorem ts_lprc2 {A1 A2 : Type} {F : (A1 → A2 → ts_M → Prop) → A1 → A2 → ts_M → Prop} {V : Nat → A1 → A2 → ts_M → Prop} (hs : ∀ (n : Nat) (k : A1 → A2 → ts_M → Prop), (∀ (x1 : A1) (x2 : A2) (M : ts_M), k x1 x2 M → V n x1 x2 M) → ∀ (x1 : A1) (x2 : A2) (M : ts_M), F k x1 x2 M → V (n + 1) x1 x2 M) : ∀ (n : Nat) (x1 : A1) (x2 : A2) (M : ts_M), ts_lp2 F n x1 x2 M → V n x1 x2 M
  | 0 => fun _ _ _ h => h.elim
  | n + 1 => hs n _ (ts_lprc2 hs n)
