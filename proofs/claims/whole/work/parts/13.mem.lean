section TSM
variable {p : Program} {l : Launch} {e : Env} {R : Room} {s : State} {m : MethodId} {args : Array Value} {below : List Frame} {meth : Method} {c : Code} {Q : State → Prop}
variable {g : ts_W} {cc : ByteArray} {own : String} {nL ck sk : Nat} {ret : Option FieldType} {P : Prop} {pc : Nat} {lv : List (Nat × Value)} {st : List Value} {M : ts_M}
/-- shape of an object's cell -/
abbrev ts_O (g : ts_W) (a ci : Nat) (F : (Int → Int) → (Int → Int64) → (Int → UInt64) → List Value) : Prop := ∀ f h d, ts_G g a f h d = .inr (ci, F f h d)
theorem ts_get {a ci N index : Nat} {Cn : String} {T : u_T} {F : (Int → Int) → (Int → Int64) → (Int → UInt64) → List Value} {v : Value} (C : ts_C p l s m args meth c g cc own nL ret) (k : Nat) (ha : a < 177) (hG : ts_O g a ci F) (hc : vwCl[ci]? = some (Cn, T, N)) (hin : ∀ w ∈ u_ws Cn T N, w ∈ lw_good) (hk : k < N) (hw : Cond.fieldLink own index (T k).1 (T k).2.1 (T k).2.2.1 ∈ lw_good) (hdg : decode cc pc = .ok (.getfield index, 3)) (hv : (F (M.1 a) (M.2.1 a) (M.2.2 a))[k]? = some v)
    (kk : P → ts_V p l e R s m args below meth c g nL ck sk Q (pc + 3) lv (v :: st) M) : P → ts_V p l e R s m args below meth c g nL ck sk Q pc lv (.ref (ts_ad g a) :: st) M := fun h X H locs ls hB hP hD hS hl =>
  va_get C.1 C.2.1 C.2.2.2.2.1 hin C.2.2.2.1 C.2.2.2.2.2.2.2.1 hP a (by rw [ts_ws_get g M X ha, hG]) hc k hk (C.2.2.2.2.1 _ hw) (fun _ q => q) hv hdg (kk h X H locs ls hB hP hD hS hl)
/-- a field is written: the words' part of it -/
theorem ts_put0 {a ci N index : Nat} {Cn : String} {T : u_T} {F : (Int → Int) → (Int → Int64) → (Int → UInt64) → List Value} {v : Value} {ty : FieldType} {M1 : ts_M} (C : ts_C p l s m args meth c g cc own nL ret) (k : Nat) (ha : a < 177) (hG : ts_O g a ci F) (hc : vwCl[ci]? = some (Cn, T, N)) (hin : ∀ w ∈ u_ws Cn T N, w ∈ lw_good) {ty0 : Nat → FieldType} (hty : ∀ k, k < N → parseFieldDescriptor (T k).2.2.1 = some (ty0 k)) (hnm : ∀ a, a < N → ∀ b, b < N → a ≠ b → (T a).2.1 ≠ (T b).2.1) (hk : k < N) (hw : Cond.fieldLink own index (T k).1 (T k).2.1 (T k).2.2.1 ∈ lw_good) (hfin : (T k).2.2.2 = false) (hd : parseFieldDescriptor (T k).2.2.1 = some ty) (hn : narrow ty v = v) (hfit : fits ty v = true) (hdg : decode cc pc = .ok (.putfield index, 3))
    (hl0 : k < (F (M.1 a) (M.2.1 a) (M.2.2 a)).length) (hF : F (M1.1 a) (M1.2.1 a) (M1.2.2 a) = (F (M.1 a) (M.2.1 a) (M.2.2 a)).set k v) (ho : ∀ b, b ≠ a → M1.1 b = M.1 b ∧ M1.2.1 b = M.2.1 b ∧ M1.2.2 b = M.2.2 b)
    (kk : ts_V p l e R s m args below meth c g nL ck sk Q (pc + 3) lv st M1) : ts_V p l e R s m args below meth c g nL ck sk Q pc lv (v :: .ref (ts_ad g a) :: st) M := fun X H locs ls hB hP hD hS hl => by
  have he : (ts_ws g M ++ X)[a]? = some (ts_ad g a, .inr (ci, F (M.1 a) (M.2.1 a) (M.2.2 a))) := by rw [ts_ws_get g M X ha, hG]
  have hset : (ts_ws g M ++ X).set a (ts_ad g a, .inr (ci, (F (M.1 a) (M.2.1 a) (M.2.2 a)).set k v)) = ts_ws g M1 ++ X := ts_ws_set g X ha (by rw [hG, hF]) (fun b hb => by obtain ⟨q1, q2, q3⟩ := ho b hb; rw [q1, q2, q3])
  have hB' : ts_SB g M1 X := ts_SB_of hB (ho 177 (by omega)).1 (ho 178 (by omega)).1
  exact va_put C.1 C.2.1 C.2.2.2.2.1 hin ty0 hty hnm C.2.2.2.1 C.2.2.2.2.2.2.2.1 hP hD hS a he hc k hk (C.2.2.2.2.1 _ hw) (fun _ q => q) hfin hd hn hfit hl0 hdg (fun H1 locs1 hP1 hD1 hS1 => kk X H1 locs1 ls hB' (hset ▸ hP1) (hset ▸ hD1) hS1 hl)
theorem ts_si_o {a : Nat} {k v : Int} : ∀ b, b ≠ a → (ts_si M a k v).1 b = M.1 b ∧ (ts_si M a k v).2.1 b = M.2.1 b ∧ (ts_si M a k v).2.2 b = M.2.2 b := fun _ h => ⟨ts_si_ne h, rfl, rfl⟩
theorem ts_sl_o {a : Nat} {k : Int} {v : Int64} : ∀ b, b ≠ a → (ts_sl M a k v).1 b = M.1 b ∧ (ts_sl M a k v).2.1 b = M.2.1 b ∧ (ts_sl M a k v).2.2 b = M.2.2 b := fun _ h => ⟨rfl, ts_sl_ne h, rfl⟩
theorem ts_sd_o {a : Nat} {k : Int} {v : UInt64} : ∀ b, b ≠ a → (ts_sd M a k v).1 b = M.1 b ∧ (ts_sd M a k v).2.1 b = M.2.1 b ∧ (ts_sd M a k v).2.2 b = M.2.2 b := fun _ h => ⟨rfl, rfl, ts_sd_ne h⟩
theorem ts_put {P : ts_M → Prop} {a ci N index : Nat} {Cn : String} {T : u_T} {F : (Int → Int) → (Int → Int64) → (Int → UInt64) → List Value} {x : Int} (C : ts_C p l s m args meth c g cc own nL ret) (k : Nat) (ha : a < 177) (hG : ts_O g a ci F) (hc : vwCl[ci]? = some (Cn, T, N)) (hin : ∀ w ∈ u_ws Cn T N, w ∈ lw_good) {ty0 : Nat → FieldType} (hty : ∀ k, k < N → parseFieldDescriptor (T k).2.2.1 = some (ty0 k)) (hnm : ∀ a, a < N → ∀ b, b < N → a ≠ b → (T a).2.1 ≠ (T b).2.1) (hk : k < N) (hw : Cond.fieldLink own index (T k).1 (T k).2.1 (T k).2.2.1 ∈ lw_good) (hfin : (T k).2.2.2 = false) (hd : parseFieldDescriptor (T k).2.2.1 = some .int) (hdg : decode cc pc = .ok (.putfield index, 3))
    (hl0 : k < (F (M.1 a) (M.2.1 a) (M.2.2 a)).length) (hF : F (ts_fu (M.1 a) (k : Int) x) (M.2.1 a) (M.2.2 a) = (F (M.1 a) (M.2.1 a) (M.2.2 a)).set k (ts_v x))
    (kk : ∀ M1, P M1 → ts_V p l e R s m args below meth c g nL ck sk Q (pc + 3) lv st M1) : (∀ M1, M1 = ts_si M a (k : Int) x → P M1) → ts_V p l e R s m args below meth c g nL ck sk Q pc lv (ts_v x :: .ref (ts_ad g a) :: st) M := fun h =>
  ts_put0 C k ha hG hc hin hty hnm hk hw hfin hd rfl rfl hdg hl0 (by rw [ts_si_eq]; exact hF) ts_si_o (kk _ (h _ rfl))
theorem ts_bool {x : Int} (h : ts_w x = 0 ∨ ts_w x = 1) : narrow .boolean (ts_v x) = ts_v x ∧ fits .boolean (ts_v x) = true := by
  have e : ts_v x = .int 0 ∨ ts_v x = .int 1 := by
    rcases h with h | h
    · left; show Value.int (ts_I x) = _; rw [ts_I_eq0.mpr h]
    · right; show Value.int (ts_I x) = _; rw [show ts_I x = ts_I 1 from ts_I_eq.mpr (by rw [h]; rfl)]; rfl
  rcases e with e | e <;> rw [e] <;> exact ⟨rfl, rfl⟩
theorem ts_putZ {P : ts_M → Prop} {a ci N index : Nat} {Cn : String} {T : u_T} {F : (Int → Int) → (Int → Int64) → (Int → UInt64) → List Value} {x : Int} (C : ts_C p l s m args meth c g cc own nL ret) (k : Nat) (ha : a < 177) (hG : ts_O g a ci F) (hc : vwCl[ci]? = some (Cn, T, N)) (hin : ∀ w ∈ u_ws Cn T N, w ∈ lw_good) {ty0 : Nat → FieldType} (hty : ∀ k, k < N → parseFieldDescriptor (T k).2.2.1 = some (ty0 k)) (hnm : ∀ a, a < N → ∀ b, b < N → a ≠ b → (T a).2.1 ≠ (T b).2.1) (hk : k < N) (hw : Cond.fieldLink own index (T k).1 (T k).2.1 (T k).2.2.1 ∈ lw_good) (hfin : (T k).2.2.2 = false) (hd : parseFieldDescriptor (T k).2.2.1 = some .boolean) (hdg : decode cc pc = .ok (.putfield index, 3))
    (hl0 : k < (F (M.1 a) (M.2.1 a) (M.2.2 a)).length) (hF : F (ts_fu (M.1 a) (k : Int) x) (M.2.1 a) (M.2.2 a) = (F (M.1 a) (M.2.1 a) (M.2.2 a)).set k (ts_v x))
    (kk : ∀ M1, P M1 → ts_V p l e R s m args below meth c g nL ck sk Q (pc + 3) lv st M1) : ((ts_w x = 0 ∨ ts_w x = 1) ∧ ∀ M1, M1 = ts_si M a (k : Int) x → P M1) → ts_V p l e R s m args below meth c g nL ck sk Q pc lv (ts_v x :: .ref (ts_ad g a) :: st) M := fun h =>
  ts_put0 C k ha hG hc hin hty hnm hk hw hfin hd (ts_bool h.1).1 (ts_bool h.1).2 hdg hl0 (by rw [ts_si_eq]; exact hF) ts_si_o (kk _ (h.2 _ rfl))
theorem ts_putL {P : ts_M → Prop} {a ci N index : Nat} {Cn : String} {T : u_T} {F : (Int → Int) → (Int → Int64) → (Int → UInt64) → List Value} {x : Int64} (C : ts_C p l s m args meth c g cc own nL ret) (k : Nat) (ha : a < 177) (hG : ts_O g a ci F) (hc : vwCl[ci]? = some (Cn, T, N)) (hin : ∀ w ∈ u_ws Cn T N, w ∈ lw_good) {ty0 : Nat → FieldType} (hty : ∀ k, k < N → parseFieldDescriptor (T k).2.2.1 = some (ty0 k)) (hnm : ∀ a, a < N → ∀ b, b < N → a ≠ b → (T a).2.1 ≠ (T b).2.1) (hk : k < N) (hw : Cond.fieldLink own index (T k).1 (T k).2.1 (T k).2.2.1 ∈ lw_good) (hfin : (T k).2.2.2 = false) (hd : parseFieldDescriptor (T k).2.2.1 = some .long) (hdg : decode cc pc = .ok (.putfield index, 3))
    (hl0 : k < (F (M.1 a) (M.2.1 a) (M.2.2 a)).length) (hF : F (M.1 a) (ts_fu (M.2.1 a) (k : Int) x) (M.2.2 a) = (F (M.1 a) (M.2.1 a) (M.2.2 a)).set k (.long x))
    (kk : ∀ M1, P M1 → ts_V p l e R s m args below meth c g nL ck sk Q (pc + 3) lv st M1) : (∀ M1, M1 = ts_sl M a (k : Int) x → P M1) → ts_V p l e R s m args below meth c g nL ck sk Q pc lv (.long x :: .ref (ts_ad g a) :: st) M := fun h =>
  ts_put0 C k ha hG hc hin hty hnm hk hw hfin hd rfl rfl hdg hl0 (by rw [ts_sl_eq]; exact hF) ts_sl_o (kk _ (h _ rfl))
/-- places of an array -/
theorem ts_ix {x : Int} {n : Nat} (h : 0 ≤ ts_w x ∧ ts_w x < (n : Int)) : vp_in (ts_I x) n ∧ (((ts_I x).toNatClampNeg : Nat) : Int) = ts_w x := by
  have e : (((ts_I x).toNatClampNeg : Nat) : Int) = ts_w x := by
    show (((ts_I x).toInt.toNat : Nat) : Int) = ts_w x
    exact Int.toNat_of_nonneg h.1
  refine ⟨fun q => ?_, e⟩
  rcases q with q | q
  · have := ts_I_lt0.mp q; omega
  · omega
theorem ts_iald {a n : Nat} {x : Int} (C : ts_C p l s m args meth c g cc own nL ret) (ha : a < 177) (hG : ∀ f h d, ts_G g a f h d = ts_ia g n f) (hdg : decode cc pc = .ok (.iaload, 1))
    (kk : P → ts_V p l e R s m args below meth c g nL ck sk Q (pc + 1) lv (ts_v (M.1 a (ts_w x)) :: st) M) : ((0 ≤ ts_w x ∧ ts_w x < (n : Int)) ∧ P) → ts_V p l e R s m args below meth c g nL ck sk Q pc lv (ts_v x :: .ref (ts_ad g a) :: st) M := fun h X H locs ls hB hP hD hS hl =>
  va_iald C.1 C.2.1 C.2.2.2.2.2.2.2.1 hP a 0 (by rw [ts_ws_get g M X ha, hG]) rfl (ts_ix h.1).1 hdg (by rw [(ts_ix h.1).2]; exact kk h.2 X H locs ls hB hP hD hS hl)
theorem ts_cald {a n : Nat} {x : Int} (C : ts_C p l s m args meth c g cc own nL ret) (ha : a < 177) (hG : ∀ f h d, ts_G g a f h d = ts_ca g n f) (hdg : decode cc pc = .ok (.caload, 1))
    (kk : P → ts_V p l e R s m args below meth c g nL ck sk Q (pc + 1) lv (ts_v (M.1 a (ts_w x)) :: st) M) : ((0 ≤ ts_w x ∧ ts_w x < (n : Int)) ∧ P) → ts_V p l e R s m args below meth c g nL ck sk Q pc lv (ts_v x :: .ref (ts_ad g a) :: st) M := fun h X H locs ls hB hP hD hS hl =>
  va_cald C.1 C.2.1 C.2.2.2.2.2.2.2.1 hP a 2 (by rw [ts_ws_get g M X ha, hG]) rfl (ts_ix h.1).1 hdg (by rw [(ts_ix h.1).2]; exact kk h.2 X H locs ls hB hP hD hS hl)
theorem ts_lald {a n : Nat} {x : Int} (C : ts_C p l s m args meth c g cc own nL ret) (ha : a < 177) (hG : ∀ f h d, ts_G g a f h d = ts_la g n h) (hdg : decode cc pc = .ok (.laload, 1))
    (kk : P → ts_V p l e R s m args below meth c g nL ck sk Q (pc + 1) lv (.long (M.2.1 a (ts_w x)) :: st) M) : ((0 ≤ ts_w x ∧ ts_w x < (n : Int)) ∧ P) → ts_V p l e R s m args below meth c g nL ck sk Q pc lv (ts_v x :: .ref (ts_ad g a) :: st) M := fun h X H locs ls hB hP hD hS hl =>
  va_lald C.1 C.2.1 C.2.2.2.2.2.2.2.1 hP a 1 (by rw [ts_ws_get g M X ha, hG]) rfl (ts_ix h.1).1 hdg (by rw [(ts_ix h.1).2]; exact kk h.2 X H locs ls hB hP hD hS hl)
theorem ts_dald {a n : Nat} {x : Int} (C : ts_C p l s m args meth c g cc own nL ret) (ha : a < 177) (hG : ∀ f h d, ts_G g a f h d = ts_da g n d) (hdg : decode cc pc = .ok (.daload, 1))
    (kk : P → ts_V p l e R s m args below meth c g nL ck sk Q (pc + 1) lv (.double (M.2.2 a (ts_w x)) :: st) M) : ((0 ≤ ts_w x ∧ ts_w x < (n : Int)) ∧ P) → ts_V p l e R s m args below meth c g nL ck sk Q pc lv (ts_v x :: .ref (ts_ad g a) :: st) M := fun h X H locs ls hB hP hD hS hl =>
  va_dald C.1 C.2.1 C.2.2.2.2.2.2.2.1 hP a 4 (by rw [ts_ws_get g M X ha, hG]) rfl (ts_ix h.1).1 hdg (by rw [(ts_ix h.1).2]; exact kk h.2 X H locs ls hB hP hD hS hl)
theorem ts_upI {f : Int → Int} {i : Nat} {x y : Int} (hi : (i : Int) = x) {z : Int32} (hz : ts_I y = z) : (fun j : Nat => ts_I (ts_fu f x y (j : Int))) = upd (fun j : Nat => ts_I (f (j : Int))) i z := by
  funext j
  subst hi
  subst hz
  by_cases h : j = i
  · subst h; simp [ts_fu, upd]
  · have h2 : ¬ (j : Int) = (i : Int) := by omega
    simp [ts_fu, upd, h, h2]
theorem ts_upL {f : Int → Int64} {i : Nat} {x : Int} {y : Int64} (hi : (i : Int) = x) : (fun j : Nat => ts_fu f x y (j : Int)) = vp_updL (fun j : Nat => f (j : Int)) i y := by
  funext j
  subst hi
  by_cases h : j = i
  · subst h; simp [ts_fu, vp_updL]
  · have h2 : ¬ (j : Int) = (i : Int) := by omega
    simp [ts_fu, vp_updL, h, h2]
theorem ts_upD {f : Int → UInt64} {i : Nat} {x : Int} {y : UInt64} (hi : (i : Int) = x) : (fun j : Nat => ts_fu f x y (j : Int)) = vf_upd (fun j : Nat => f (j : Int)) i y := by
  funext j
  subst hi
  by_cases h : j = i
  · subst h; simp [ts_fu, vf_upd]
  · have h2 : ¬ (j : Int) = (i : Int) := by omega
    simp [ts_fu, vf_upd, h, h2]
theorem ts_iast {P : ts_M → Prop} {a n : Nat} {x y : Int} (C : ts_C p l s m args meth c g cc own nL ret) (ha : a < 177) (hG : ∀ f h d, ts_G g a f h d = ts_ia g n f) (hdg : decode cc pc = .ok (.iastore, 1))
    (kk : ∀ M1, P M1 → ts_V p l e R s m args below meth c g nL ck sk Q (pc + 1) lv st M1) : ((0 ≤ ts_w x ∧ ts_w x < (n : Int)) ∧ ∀ M1, M1 = ts_si M a (ts_w x) y → P M1) → ts_V p l e R s m args below meth c g nL ck sk Q pc lv (ts_v y :: ts_v x :: .ref (ts_ad g a) :: st) M := fun h X H locs ls hB hP hD hS hl =>
  va_iast C.1 C.2.1 C.2.2.2.2.2.2.2.1 hP hD hS a 0 (by rw [ts_ws_get g M X ha, hG]) rfl (ts_ix h.1).1 hdg (fun H1 locs1 hP1 hD1 hS1 => by
    have hset : (ts_ws g M ++ X).set a (ts_ad g a, .inl (g.2.1 0, n, .inl (upd (fun j : Nat => ts_I (M.1 a (j : Int))) (ts_I x).toNatClampNeg (ts_I y)))) = ts_ws g (ts_si M a (ts_w x) y) ++ X := ts_ws_set g X ha (by rw [hG, ts_si_eq, ← ts_upI (ts_ix h.1).2 rfl]) (fun b hb => by rw [ts_si_ne hb]; rfl)
    exact kk _ (h.2 _ rfl) X H1 locs1 ls (ts_SB_of hB (ts_si_ne (by omega)) (ts_si_ne (by omega))) (hset ▸ hP1) (hset ▸ hD1) hS1 hl)
theorem ts_cast {P : ts_M → Prop} {a n : Nat} {x y : Int} (C : ts_C p l s m args meth c g cc own nL ret) (ha : a < 177) (hG : ∀ f h d, ts_G g a f h d = ts_ca g n f) (hdg : decode cc pc = .ok (.castore, 1))
    (kk : ∀ M1, P M1 → ts_V p l e R s m args below meth c g nL ck sk Q (pc + 1) lv st M1) : ((0 ≤ ts_w x ∧ ts_w x < (n : Int)) ∧ ∀ M1, M1 = ts_si M a (ts_w x) (ts_nar .char y) → P M1) → ts_V p l e R s m args below meth c g nL ck sk Q pc lv (ts_v y :: ts_v x :: .ref (ts_ad g a) :: st) M := fun h X H locs ls hB hP hD hS hl =>
  va_cast C.1 C.2.1 C.2.2.2.2.2.2.2.1 hP hD hS a 2 (by rw [ts_ws_get g M X ha, hG]) rfl (ts_ix h.1).1 hdg (fun H1 locs1 hP1 hD1 hS1 => by
    have hset : (ts_ws g M ++ X).set a (ts_ad g a, .inl (g.2.1 2, n, .inl (upd (fun j : Nat => ts_I (M.1 a (j : Int))) (ts_I x).toNatClampNeg (vp_nar .char (ts_I y))))) = ts_ws g (ts_si M a (ts_w x) (ts_nar .char y)) ++ X := ts_ws_set g X ha (by rw [hG, ts_si_eq, ← ts_upI (ts_ix h.1).2 (show ts_I (ts_nar .char y) = vp_nar .char (ts_I y) from Int32.ofInt_toInt _)]) (fun b hb => by rw [ts_si_ne hb]; rfl)
    exact kk _ (h.2 _ rfl) X H1 locs1 ls (ts_SB_of hB (ts_si_ne (by omega)) (ts_si_ne (by omega))) (hset ▸ hP1) (hset ▸ hD1) hS1 hl)
theorem ts_last {P : ts_M → Prop} {a n : Nat} {x : Int} {y : Int64} (C : ts_C p l s m args meth c g cc own nL ret) (ha : a < 177) (hG : ∀ f h d, ts_G g a f h d = ts_la g n h) (hdg : decode cc pc = .ok (.lastore, 1))
    (kk : ∀ M1, P M1 → ts_V p l e R s m args below meth c g nL ck sk Q (pc + 1) lv st M1) : ((0 ≤ ts_w x ∧ ts_w x < (n : Int)) ∧ ∀ M1, M1 = ts_sl M a (ts_w x) y → P M1) → ts_V p l e R s m args below meth c g nL ck sk Q pc lv (.long y :: ts_v x :: .ref (ts_ad g a) :: st) M := fun h X H locs ls hB hP hD hS hl =>
  va_last C.1 C.2.1 C.2.2.2.2.2.2.2.1 hP hD hS a 1 (by rw [ts_ws_get g M X ha, hG]) rfl (ts_ix h.1).1 hdg (fun H1 locs1 hP1 hD1 hS1 => by
    have hset : (ts_ws g M ++ X).set a (ts_ad g a, .inl (g.2.1 1, n, .inr (.inl (vp_updL (fun j : Nat => M.2.1 a (j : Int)) (ts_I x).toNatClampNeg y)))) = ts_ws g (ts_sl M a (ts_w x) y) ++ X := ts_ws_set g X ha (by rw [hG, ts_sl_eq, ← ts_upL (ts_ix h.1).2]) (fun b hb => by rw [ts_sl_ne hb]; rfl)
    exact kk _ (h.2 _ rfl) X H1 locs1 ls (ts_SB_of hB rfl rfl) (hset ▸ hP1) (hset ▸ hD1) hS1 hl)
theorem ts_dast {P : ts_M → Prop} {a n : Nat} {x : Int} {y : UInt64} (C : ts_C p l s m args meth c g cc own nL ret) (ha : a < 177) (hG : ∀ f h d, ts_G g a f h d = ts_da g n d) (hdg : decode cc pc = .ok (.dastore, 1))
    (kk : ∀ M1, P M1 → ts_V p l e R s m args below meth c g nL ck sk Q (pc + 1) lv st M1) : ((0 ≤ ts_w x ∧ ts_w x < (n : Int)) ∧ ∀ M1, M1 = ts_sd M a (ts_w x) y → P M1) → ts_V p l e R s m args below meth c g nL ck sk Q pc lv (.double y :: ts_v x :: .ref (ts_ad g a) :: st) M := fun h X H locs ls hB hP hD hS hl =>
  va_dast C.1 C.2.1 C.2.2.2.2.2.2.2.1 hP hD hS a 4 (by rw [ts_ws_get g M X ha, hG]) rfl (ts_ix h.1).1 hdg (fun H1 locs1 hP1 hD1 hS1 => by
    have hset : (ts_ws g M ++ X).set a (ts_ad g a, .inl (g.2.1 4, n, .inr (.inr (.inr (.inl (vf_upd (fun j : Nat => M.2.2 a (j : Int)) (ts_I x).toNatClampNeg y)))))) = ts_ws g (ts_sd M a (ts_w x) y) ++ X := ts_ws_set g X ha (by rw [hG, ts_sd_eq, ← ts_upD (ts_ix h.1).2]) (fun b hb => by rw [ts_sd_ne hb]; rfl)
    exact kk _ (h.2 _ rfl) X H1 locs1 ls (ts_SB_of hB rfl rfl) (hset ▸ hP1) (hset ▸ hD1) hS1 hl)
theorem ts_alenI {a n : Nat} (C : ts_C p l s m args meth c g cc own nL ret) (ha : a < 177) (hG : ∀ f h d, ts_G g a f h d = ts_ia g n f) (hdg : decode cc pc = .ok (.arraylength, 1))
    (kk : P → ts_V p l e R s m args below meth c g nL ck sk Q (pc + 1) lv (ts_v (n : Int) :: st) M) : P → ts_V p l e R s m args below meth c g nL ck sk Q pc lv (.ref (ts_ad g a) :: st) M := fun h X H locs ls hB hP hD hS hl =>
  va_alen C.1 C.2.1 C.2.2.2.2.2.2.2.1 hP a 0 (by rw [ts_ws_get g M X ha, hG]) rfl (Int32.ofInt_eq_ofNat).symm hdg (kk h X H locs ls hB hP hD hS hl)
theorem ts_alenL {a n : Nat} (C : ts_C p l s m args meth c g cc own nL ret) (ha : a < 177) (hG : ∀ f h d, ts_G g a f h d = ts_la g n h) (hdg : decode cc pc = .ok (.arraylength, 1))
    (kk : P → ts_V p l e R s m args below meth c g nL ck sk Q (pc + 1) lv (ts_v (n : Int) :: st) M) : P → ts_V p l e R s m args below meth c g nL ck sk Q pc lv (.ref (ts_ad g a) :: st) M := fun h X H locs ls hB hP hD hS hl =>
  va_alen C.1 C.2.1 C.2.2.2.2.2.2.2.1 hP a 1 (by rw [ts_ws_get g M X ha, hG]) rfl (Int32.ofInt_eq_ofNat).symm hdg (kk h X H locs ls hB hP hD hS hl)
end TSM
