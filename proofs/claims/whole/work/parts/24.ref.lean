abbrev ts_rv (g : ts_W) (x : Int) : Value := .ref (ts_sx g (50 + x.toNat))
abbrev ts_cx (g : ts_W) (x : Int) : Value := va_rf (ts_cm g x)
abbrev ts_kv (g : ts_W) (q : Nat) : Value := .ref (ts_sx g (100 + q))
abbrev ts_bv (g : ts_W) (q : Nat) : Value := .ref (ts_sx g (120 + q))
abbrev ts_Rr (g : ts_W) (Q : Int → ts_M → Prop) : Option Value → ts_M → Prop := fun v M1 => ∃ r : Int, v = some (ts_rv g r) ∧ Q r M1
abbrev ts_Rn (g : ts_W) (Q : Int → ts_M → Prop) : Option Value → ts_M → Prop := fun v M1 => ∃ r : Int, v = some (ts_cx g r) ∧ Q r M1
/-- the i-th byte of a constant, its length -/
def ts_bt (q : Nat) (i : Int) : Int := ((ts_byt.getD q []).getD i.toNat 0).toInt
def ts_ln (q : Nat) : Int := ((ts_len.getD q 0 : Nat) : Int)
theorem ts_cm_of {g : ts_W} {x : Int} (h : 0 ≤ x) : ts_cm g x = some (ts_sx g x.toNat) := if_neg (by omega)
theorem ts_cm_neg {g : ts_W} {x : Int} (h : x < 0) : ts_cm g x = none := if_pos h
theorem ts_cx_of {g : ts_W} {x : Int} (h : 0 ≤ x) : ts_cx g x = .ref (ts_sx g x.toNat) := by unfold ts_cx; rw [ts_cm_of h]; rfl
theorem ts_cx_neg {g : ts_W} {x : Int} (h : x < 0) : ts_cx g x = .null := by unfold ts_cx; rw [ts_cm_neg h]; rfl
theorem ts_len_ok : ∀ q, q < 13 → ts_len.getD q 0 < 100 := by decide
section TSQ
variable {p : Program} {l : Launch} {e : Env} {R : Room} {s : State} {m : MethodId} {args : Array Value} {below : List Frame} {meth : Method} {c : Code} {Q : State → Prop}
variable {g : ts_W} {cc : ByteArray} {own : String} {nL ck sk : Nat} {ret : Option FieldType} {P P2 : Prop} {pc : Nat} {lv : List (Nat × Value)} {st : List Value} {M : ts_M} {index : Nat}
theorem ts_getR (C : ts_C p l s m args meth c g cc own nL ret) (x : Int) (hx : 0 ≤ x ∧ x < 6) (hw : Cond.fieldLink own index RX6 (ts_rfs.getD x.toNat "") "LTeaspoonSalon$Refusal;" ∈ lw_good) (hdg : decode cc pc = .ok (.getstatic index, 3))
    (kk : P → ts_V p l e R s m args below meth c g nL ck sk Q (pc + 3) lv (ts_rv g x :: st) M) : P → ts_V p l e R s m args below meth c g nL ck sk Q pc lv st M := fun h X H locs ls hB hP hD hS hl =>
  va_gets C.1 C.2.1 (C.2.2.2.2.2.2.2.2.2.1.2.2.2.2.1.1 x.toNat (by show _ < 6; omega)).1 hS C.2.2.2.1 (C.2.2.2.2.1 _ hw) (fun _ q => q) hdg (kk h X H locs ls hB hP hD hS hl)
theorem ts_getC (C : ts_C p l s m args meth c g cc own nL ret) (x : Int) (hx : 0 ≤ x ∧ x < 12) (hw : Cond.fieldLink own index RX2 (ts_cmds.getD x.toNat "") "LTeaspoonSalon$Command;" ∈ lw_good) (hdg : decode cc pc = .ok (.getstatic index, 3))
    (kk : P → ts_V p l e R s m args below meth c g nL ck sk Q (pc + 3) lv (ts_cx g x :: st) M) : P → ts_V p l e R s m args below meth c g nL ck sk Q pc lv st M := fun h X H locs ls hB hP hD hS hl =>
  va_gets C.1 C.2.1 (C.2.2.2.2.2.2.2.2.2.1.2.2.1.1 x.toNat (by show _ < 12; omega)).1 hS C.2.2.2.1 (C.2.2.2.2.1 _ hw) (fun _ q => q) hdg (ts_cx_of (g := g) hx.1 ▸ (kk h X H locs ls hB hP hD hS hl))
theorem ts_null (C : ts_C p l s m args meth c g cc own nL ret) (hdg : decode cc pc = .ok (.aconst_null, 1))
    (kk : P → ts_V p l e R s m args below meth c g nL ck sk Q (pc + 1) lv (ts_cx g (-1) :: st) M) : P → ts_V p l e R s m args below meth c g nL ck sk Q pc lv st M := fun h X H locs ls hB hP hD hS hl =>
  lv_null C.1 C.2.1 hdg (ts_cx_neg (g := g) (x := -1) (by decide) ▸ (kk h X H locs ls hB hP hD hS hl))
theorem ts_aloadq_n (C : ts_C p l s m args meth c g cc own nL ret) {k : Fin 4} {i : Nat} {r : Option Nat} (hdg : decode cc pc = .ok (.aload_n k, 1)) (hi : (k : Nat) = i) (j : Nat) (hj : lv[j]? = some (i, va_rf r))
    (kk : P → ts_V p l e R s m args below meth c g nL ck sk Q (pc + 1) lv (va_rf r :: st) M) : P → ts_V p l e R s m args below meth c g nL ck sk Q pc lv st M := fun h X H locs ls hB hP hD hS hl => by
  have h0 := kk h X H locs ls hB hP hD hS hl
  have h1 := lv_at hl j hj
  cases r with
  | none => exact lv_aload_nN C.1 C.2.1 hdg hi h1 h0
  | some a => exact lv_aload_n C.1 C.2.1 hdg hi h1 h0
theorem ts_aloadq (C : ts_C p l s m args meth c g cc own nL ret) {i : Nat} {r : Option Nat} (hdg : decode cc pc = .ok (.aload i, 2)) (j : Nat) (hj : lv[j]? = some (i, va_rf r))
    (kk : P → ts_V p l e R s m args below meth c g nL ck sk Q (pc + 2) lv (va_rf r :: st) M) : P → ts_V p l e R s m args below meth c g nL ck sk Q pc lv st M := fun h X H locs ls hB hP hD hS hl => by
  have h0 := kk h X H locs ls hB hP hD hS hl
  have h1 := lv_at hl j hj
  cases r with
  | none => exact lv_aloadN C.1 C.2.1 hdg h1 h0
  | some a => exact lv_aload C.1 C.2.1 hdg h1 h0
theorem ts_astoreq_n {P : Int → Prop} (C : ts_C p l s m args meth c g cc own nL ret) {k : Fin 4} {i : Nat} {e0 : Int} (hdg : decode cc pc = .ok (.astore_n k, 1)) (hi : (k : Nat) = i) (hn : i < nL) {lv' : Int → List (Nat × Value)} (hl' : ∀ x : Int, (i, ts_cx g x) :: lv.filter (fun q => !(q.1 == i) && !(q.1 + 1 == i && q.2.category == 2)) = lv' x)
    (kk : ∀ x : Int, P x → ts_V p l e R s m args below meth c g nL ck sk Q (pc + 1) (lv' x) st M) : (∀ x : Int, x = e0 → P x) → ts_V p l e R s m args below meth c g nL ck sk Q pc lv (ts_cx g e0 :: st) M := fun h X H locs ls hB hP hD hS hl => by
  have h0 := fun ls hl => kk e0 (h e0 rfl) X H locs ls hB hP hD hS hl
  have h2 := hl' e0
  revert h2
  unfold ts_cx
  cases ts_cm g e0 with
  | none => intro h2; exact lv_astore_nN C.1 C.2.1 hdg hi hl hn h2 h0
  | some a => intro h2; exact lv_astore_n C.1 C.2.1 hdg hi hl hn h2 h0
theorem ts_astoreq {P : Int → Prop} (C : ts_C p l s m args meth c g cc own nL ret) {i : Nat} {e0 : Int} (hdg : decode cc pc = .ok (.astore i, 2)) (hn : i < nL) {lv' : Int → List (Nat × Value)} (hl' : ∀ x : Int, (i, ts_cx g x) :: lv.filter (fun q => !(q.1 == i) && !(q.1 + 1 == i && q.2.category == 2)) = lv' x)
    (kk : ∀ x : Int, P x → ts_V p l e R s m args below meth c g nL ck sk Q (pc + 2) (lv' x) st M) : (∀ x : Int, x = e0 → P x) → ts_V p l e R s m args below meth c g nL ck sk Q pc lv (ts_cx g e0 :: st) M := fun h X H locs ls hB hP hD hS hl => by
  have h0 := fun ls hl => kk e0 (h e0 rfl) X H locs ls hB hP hD hS hl
  have h2 := hl' e0
  revert h2
  unfold ts_cx
  cases ts_cm g e0 with
  | none => intro h2; exact lv_astoreN C.1 C.2.1 hdg hl hn h2 h0
  | some a => intro h2; exact lv_astore C.1 C.2.1 hdg hl hn h2 h0
theorem ts_ifnonnullq (C : ts_C p l s m args meth c g cc own nL ret) {x off : Int} (tgt : Nat) (hdg : decode cc pc = .ok (.ifnonnull off, 3)) (ht : (pc : Int) + off = (tgt : Int))
    (kt : P → ts_V p l e R s m args below meth c g nL ck sk Q tgt lv st M) (kf : P2 → ts_V p l e R s m args below meth c g nL ck sk Q (pc + 3) lv st M) : ((0 ≤ x → P) ∧ (¬ 0 ≤ x → P2)) → ts_V p l e R s m args below meth c g nL ck sk Q pc lv (ts_cx g x :: st) M := fun h X H locs ls hB hP hD hS hl => by
  by_cases hx : 0 ≤ x
  · rw [ts_cx_of hx]; exact lv_ifnonnull C.1 C.2.1 hdg ht (kt (h.1 hx) X H locs ls hB hP hD hS hl)
  · rw [ts_cx_neg (by omega)]; exact lv_ifnonnullN C.1 C.2.1 hdg (kf (h.2 hx) X H locs ls hB hP hD hS hl)
theorem ts_ifnull (C : ts_C p l s m args meth c g cc own nL ret) {a : Nat} {off : Int} (hdg : decode cc pc = .ok (.ifnull off, 3)) (kk : P → ts_V p l e R s m args below meth c g nL ck sk Q (pc + 3) lv st M) : P → ts_V p l e R s m args below meth c g nL ck sk Q pc lv (.ref a :: st) M := fun h X H locs ls hB hP hD hS hl => lv_ifnull C.1 C.2.1 hdg (kk h X H locs ls hB hP hD hS hl)
theorem ts_rv_inj (C : ts_C p l s m args meth c g cc own nL ret) {x y : Int} (hx : 0 ≤ x ∧ x < 6) (hy : 0 ≤ y ∧ y < 6) (h : ts_sx g (50 + x.toNat) = ts_sx g (50 + y.toNat)) : x = y := by
  have := C.2.2.2.2.2.2.2.2.2.1.2.2.2.2.1.2 x.toNat y.toNat (by show _ < 6; omega) (by show _ < 6; omega) h
  omega
theorem ts_acmp_ne (C : ts_C p l s m args meth c g cc own nL ret) {x y off : Int} (hy : 0 ≤ y ∧ y < 6) (tgt : Nat) (hdg : decode cc pc = .ok (.if_acmp .ne off, 3)) (ht : (pc : Int) + off = (tgt : Int))
    (kt : P → ts_V p l e R s m args below meth c g nL ck sk Q tgt lv st M) (kf : P2 → ts_V p l e R s m args below meth c g nL ck sk Q (pc + 3) lv st M) : ((0 ≤ x ∧ x < 6) ∧ (¬ x = y → P) ∧ (x = y → P2)) → ts_V p l e R s m args below meth c g nL ck sk Q pc lv (ts_rv g y :: ts_rv g x :: st) M := fun h X H locs ls hB hP hD hS hl =>
  lv_acmp_ne (rx := some _) (ry := some _) C.1 C.2.1 hdg ht (fun q => kt (h.2.1 (fun e => q (by rw [e]))) X H locs ls hB hP hD hS hl) (fun q => kf (h.2.2 (ts_rv_inj C h.1 hy (Option.some.inj q))) X H locs ls hB hP hD hS hl)
theorem ts_acmp_eq (C : ts_C p l s m args meth c g cc own nL ret) {x y off : Int} (hy : 0 ≤ y ∧ y < 6) (tgt : Nat) (hdg : decode cc pc = .ok (.if_acmp .eq off, 3)) (ht : (pc : Int) + off = (tgt : Int))
    (kt : P → ts_V p l e R s m args below meth c g nL ck sk Q tgt lv st M) (kf : P2 → ts_V p l e R s m args below meth c g nL ck sk Q (pc + 3) lv st M) : ((0 ≤ x ∧ x < 6) ∧ (x = y → P) ∧ (¬ x = y → P2)) → ts_V p l e R s m args below meth c g nL ck sk Q pc lv (ts_rv g y :: ts_rv g x :: st) M := fun h X H locs ls hB hP hD hS hl =>
  lv_acmp_eq (rx := some _) (ry := some _) C.1 C.2.1 hdg ht (fun q => kt (h.2.1 (ts_rv_inj C h.1 hy (Option.some.inj q))) X H locs ls hB hP hD hS hl) (fun q => kf (h.2.2 (fun e => q (by rw [e]))) X H locs ls hB hP hD hS hl)
theorem ts_aldC (C : ts_C p l s m args meth c g cc own nL ret) {x : Int} (hdg : decode cc pc = .ok (.aaload, 1))
    (kk : P → ts_V p l e R s m args below meth c g nL ck sk Q (pc + 1) lv (ts_cx g (M.1 162 (ts_w x)) :: st) M) : ((0 ≤ ts_w x ∧ ts_w x < 12) ∧ P) → ts_V p l e R s m args below meth c g nL ck sk Q pc lv (ts_v x :: .ref (ts_ad g 162) :: st) M := fun h X H locs ls hB hP hD hS hl =>
  va_aldq (C := RX2) C.1 C.2.1 C.2.2.2.2.2.2.2.1 hP 162 6 (by rw [ts_ws_get g M X (by decide)]; rfl) rfl (ts_ix (n := 12) h.1).1 hdg (by rw [(ts_ix (n := 12) h.1).2]; exact kk h.2 X H locs ls hB hP hD hS hl)
theorem ts_aldS {P : Nat → Prop} (C : ts_C p l s m args meth c g cc own nL ret) {x : Int} (hdg : decode cc pc = .ok (.aaload, 1))
    (kk : ∀ b : Nat, ts_isS b → P b → ts_V p l e R s m args below meth c g nL ck sk Q (pc + 1) lv (.ref (ts_ad g b) :: st) M) : ((0 ≤ ts_w x ∧ ts_w x < 8) ∧ ∀ b : Nat, b = 14 * ((ts_w x).toNat + 3) → P b) → ts_V p l e R s m args below meth c g nL ck sk Q pc lv (ts_v x :: .ref (ts_ad g 159) :: st) M := fun h X H locs ls hB hP hD hS hl => by
  have e := (ts_ix (n := 8) h.1).2
  have e2 : (ts_I x).toNatClampNeg = (ts_w x).toNat := by omega
  exact va_aldq (C := RX9) C.1 C.2.1 C.2.2.2.2.2.2.2.1 hP 159 5 (by rw [ts_ws_get g M X (by decide)]; rfl) rfl (ts_ix (n := 8) h.1).1 hdg (by rw [e2]; exact kk (14 * ((ts_w x).toNat + 3)) ⟨(ts_w x).toNat + 3, by omega, rfl⟩ (h.2 _ rfl) X H locs ls hB hP hD hS hl)
theorem ts_astC {P : ts_M → Prop} (C : ts_C p l s m args meth c g cc own nL ret) {x y : Int} (hdg : decode cc pc = .ok (.aastore, 1))
    (kk : ∀ M1, P M1 → ts_V p l e R s m args below meth c g nL ck sk Q (pc + 1) lv st M1) : ((0 ≤ ts_w x ∧ ts_w x < 12) ∧ (0 ≤ y ∧ y < 12) ∧ ∀ M1, M1 = ts_si M 162 (ts_w x) y → P M1) → ts_V p l e R s m args below meth c g nL ck sk Q pc lv (ts_cx g y :: ts_v x :: .ref (ts_ad g 162) :: st) M := fun h X H locs ls hB hP hD hS hl => by
  obtain ⟨hx, hy, hq⟩ := h
  rw [ts_cx_of hy.1]
  have hin := (ts_ix (n := 12) hx).1
  have he := (ts_ix (n := 12) hx).2
  have ha : (ts_ws g M ++ X)[162]? = some (ts_ad g 162, .inl (g.2.1 6, 12, .inr (.inr (.inr (.inr (fun j => ts_cm g (M.1 162 (j : Int)))))))) := by rw [ts_ws_get g M X (by decide)]; rfl
  have ht : (ts_tys g)[6]? = some (g.2.1 6, .object RX2) := rfl
  have hK := C.2.2.2.2.2.2.2.1
  obtain ⟨cellV, g1, g2, g3⟩ := va_recvE (i := y.toNat) C.2.2.2.2.2.2.2.2.2.1.2.2.1 (by show _ < 12; omega) hS
  obtain ⟨kA, comp, k1, k2, k3, k4⟩ := (hK.2 6 _ ht).2
  have hcomp : comp = cellV.cls := Option.some.inj (k3.symm.trans g3)
  obtain ⟨kC, hkC, -⟩ := Vm.findClass_spec k3
  have hupd : (fun j : Nat => ts_cm g (ts_fu (M.1 162) (ts_w x) y (j : Int))) = va_up (fun j : Nat => ts_cm g (M.1 162 (j : Int))) (ts_I x).toNatClampNeg (some (ts_sx g y.toNat)) := by
    funext j
    by_cases hj : j = (ts_I x).toNatClampNeg
    · simp only [ts_fu, va_up, hj, he, if_true]
      exact ts_cm_of hy.1
    · have : ¬ (j : Int) = ts_w x := fun q => hj (by omega)
      simp only [ts_fu, va_up, if_neg hj, if_neg this]
  have hset : (ts_ws g M ++ X).set 162 (ts_ad g 162, .inl (g.2.1 6, 12, .inr (.inr (.inr (.inr (va_up (fun j : Nat => ts_cm g (M.1 162 (j : Int))) (ts_I x).toNatClampNeg (some (ts_sx g y.toNat)))))))) = ts_ws g (ts_si M 162 (ts_w x) y) ++ X := by
    refine ts_ws_set g X (by decide) ?_ (fun b hb => by rw [ts_si_ne hb]; rfl)
    rw [← hupd, ts_si_eq]
    rfl
  refine W.aast C.1 C.2.1 (hP 162 _ ha) (fun q h => by cases h) (fun h => by cases h) k1 k2 rfl hkC ⟨fun q => hin (Or.inl q), by show _ < (arrV _ _ _).slots.size; rw [arrV_size]; exact Nat.not_le.mp fun q => hin (Or.inr q)⟩ g1 (fun q h => by rw [h] at g2; cases g2) (by rw [← hcomp]; exact hkC) (by rw [← hcomp]; exact va_asg _ _) rfl rfl hdg fun H1 e z oq => ?_
  have e2 : H1[ts_ad g 162]? = some (vp_cell (g.2.1 6) (12, .inr (.inr (.inr (.inr (va_up (fun j : Nat => ts_cm g (M.1 162 (j : Int))) (ts_I x).toNatClampNeg (some (ts_sx g y.toNat)))))))) := by
    rw [e]
    rw [vp_cell_q, vp_cell_q, arrV_store]
    congr 2
    funext q
    by_cases hq : q = (ts_I x).toNatClampNeg
    · subst hq
      simp [updV, va_up, va_rf]
    · simp [updV, va_up, hq]
  have hP1 : va_P g.1 vwCl ((ts_ws g M ++ X).set 162 (ts_ad g 162, .inl (g.2.1 6, 12, .inr (.inr (.inr (.inr (va_up (fun j : Nat => ts_cm g (M.1 162 (j : Int))) (ts_I x).toNatClampNeg (some (ts_sx g y.toNat))))))))) H1 := hP.set hD ha e2 oq
  have hD1 : va_D (ts_A g) ((ts_ws g M ++ X).set 162 (ts_ad g 162, .inl (g.2.1 6, 12, .inr (.inr (.inr (.inr (va_up (fun j : Nat => ts_cm g (M.1 162 (j : Int))) (ts_I x).toNatClampNeg (some (ts_sx g y.toNat))))))))) := hD.set ha
  rw [hset] at hP1 hD1
  exact kk _ (hq _ rfl) X H1 _ ls (ts_SB_of hB (ts_si_ne (by omega)) (ts_si_ne (by omega))) hP1 hD1 (hS.put z oq (hD.2 162 _ ha)) hl

theorem ts_getALL (C : ts_C p l s m args meth c g cc own nL ret) {host : String} (hw : Cond.fieldLinkNest own index RX2 "ALL" "[LTeaspoonSalon$Command;" host ∈ ts_nw) (hdg : decode cc pc = .ok (.getstatic index, 3))
    (kk : P → ts_V p l e R s m args below meth c g nL ck sk Q (pc + 3) lv (.ref (ts_sx g 140) :: st) M) : P → ts_V p l e R s m args below meth c g nL ck sk Q pc lv st M := fun h X H locs ls hB hP hD hS hl =>
  va_getsN C.1 C.2.1 C.2.2.2.2.2.2.2.2.2.1.2.2.2.2.2.2.1.1 hS C.2.2.2.1 (va_Nw.use rfl (C.2.2.2.2.2.2.2.2.1.1 _ hw)) (fun _ q => q) hdg (kk h X H locs ls hB hP hD hS hl)
theorem ts_alenALL (C : ts_C p l s m args meth c g cc own nL ret) (hdg : decode cc pc = .ok (.arraylength, 1))
    (kk : P → ts_V p l e R s m args below meth c g nL ck sk Q (pc + 1) lv (ts_v 12 :: st) M) : P → ts_V p l e R s m args below meth c g nL ck sk Q pc lv (.ref (ts_sx g 140) :: st) M := fun h X H locs ls hB hP hD hS hl =>
  va_tlen C.1 C.2.1 C.2.2.2.2.2.2.2.2.2.1.2.2.2.2.2.2.1.2 hS (v := ts_I 12) rfl hdg (kk h X H locs ls hB hP hD hS hl)
theorem ts_aldALL (C : ts_C p l s m args meth c g cc own nL ret) {x : Int} (hdg : decode cc pc = .ok (.aaload, 1))
    (kk : P → ts_V p l e R s m args below meth c g nL ck sk Q (pc + 1) lv (ts_cx g (ts_w x) :: st) M) : ((0 ≤ ts_w x ∧ ts_w x < 12) ∧ P) → ts_V p l e R s m args below meth c g nL ck sk Q pc lv (ts_v x :: .ref (ts_sx g 140) :: st) M := fun h X H locs ls hB hP hD hS hl => by
  have hin := (ts_ix (n := 12) h.1).1
  have he := (ts_ix (n := 12) h.1).2
  obtain ⟨cell, h1, h2, h3, h4, h5, h6, h7⟩ := C.2.2.2.2.2.2.2.2.2.1.2.2.2.2.2.2.1.2
  have hlt : (ts_I x).toNatClampNeg < 12 := Nat.not_le.mp fun q => hin (Or.inr q)
  have hv : cell.slots[(ts_I x).toNatClampNeg]? = some (ts_cx g (ts_w x)) := by
    rw [h6 _ hlt, ts_cx_of h.1.1]
    congr 3
  refine W.aald (v := ts_cx g (ts_w x)) (ty := .object RX2) C.1 C.2.1 (by rw [hS.2.1 _ (Array.getElem?_eq_some_iff.mp h1).1 h7]; exact h1) h2 rfl h3 (fun q => q.elim (fun q => hin (Or.inl q)) (fun q => by omega)) hv rfl rfl hdg (kk h.2 X H locs ls hB hP hD hS hl)
theorem ts_getSM (C : ts_C p l s m args meth c g cc own nL ret) (hw : Cond.fieldLink own index RX0 "$SwitchMap$TeaspoonSalon$Command" "[I" ∈ lw_good) (hdg : decode cc pc = .ok (.getstatic index, 3))
    (kk : P → ts_V p l e R s m args below meth c g nL ck sk Q (pc + 3) lv (.ref (ts_sx g 141) :: st) M) : P → ts_V p l e R s m args below meth c g nL ck sk Q pc lv st M := fun h X H locs ls hB hP hD hS hl =>
  va_gets C.1 C.2.1 C.2.2.2.2.2.2.2.2.2.1.2.2.2.2.2.2.2.1.1 hS C.2.2.2.1 (C.2.2.2.2.1 _ hw) (fun _ q => q) hdg (kk h X H locs ls hB hP hD hS hl)
theorem ts_ialdSM (C : ts_C p l s m args meth c g cc own nL ret) {x : Int} (hdg : decode cc pc = .ok (.iaload, 1))
    (kk : P → ts_V p l e R s m args below meth c g nL ck sk Q (pc + 1) lv (ts_v (ts_w x + 1) :: st) M) : ((0 ≤ ts_w x ∧ ts_w x < 12) ∧ P) → ts_V p l e R s m args below meth c g nL ck sk Q pc lv (ts_v x :: .ref (ts_sx g 141) :: st) M := fun h X H locs ls hB hP hD hS hl =>
  va_ti (v := ts_v (ts_w x + 1)) C.1 C.2.1 C.2.2.2.2.2.2.2.2.2.1.2.2.2.2.2.2.2.1.2 hS (ts_ix (n := 12) h.1).1 (by
    have he := (ts_ix (n := 12) h.1).2
    show Value.int (Int32.ofNat _) = .int (Int32.ofInt _)
    rw [← Int32.ofInt_eq_ofNat]
    congr 2
    omega) hdg (kk h.2 X H locs ls hB hP hD hS hl)
theorem ts_getForm (C : ts_C p l s m args meth c g cc own nL ret) {x : Int} {host : String} (hw : Cond.fieldLinkNest own index RX2 "form" "Ljava/lang/String;" host ∈ ts_nw) (hdg : decode cc pc = .ok (.getfield index, 3))
    (kk : x.toNat < 13 → P → ts_V p l e R s m args below meth c g nL ck sk Q (pc + 3) lv (ts_kv g x.toNat :: st) M) : ((0 ≤ x ∧ x < 12) ∧ P) → ts_V p l e R s m args below meth c g nL ck sk Q pc lv (ts_cx g x :: st) M := fun h X H locs ls hB hP hD hS hl => by
  rw [ts_cx_of h.1.1]
  obtain ⟨cf, k, fi, f, cell, h1, h2, h3, h4, h5, h6⟩ := (C.2.2.2.2.2.2.2.2.2.1.2.2.2.1 x.toNat (by omega)).kept hS.2.1
  exact va_Wgetf C.1 C.2.1 C.2.2.2.1 (va_Nw.use rfl (C.2.2.2.2.2.2.2.2.1.1 _ hw)) h1 h2 h3 h4 (v := ts_kv g x.toNat) h5 rfl rfl hdg (kk (by omega) h.2 X H locs ls hB hP hD hS hl)
theorem ts_getOrd (C : ts_C p l s m args meth c g cc own nL ret) {x : Int} (hw : Cond.fieldLink own index "java/lang/Enum" "ordinal" "I" ∈ lw_good) (hdg : decode cc pc = .ok (.getfield index, 3)) (hx : 0 ≤ x ∧ x < 12)
    (kk : P → ts_V p l e R s m args below meth c g nL ck sk Q (pc + 3) lv (ts_v x :: st) M) : P → ts_V p l e R s m args below meth c g nL ck sk Q pc lv (.ref (ts_sx g x.toNat) :: st) M := fun h X H locs ls hB hP hD hS hl => by
  have h0 := kk h X H locs ls hB hP hD hS hl
  refine va_getE (i := x.toNat) (q := ("java/lang/Enum", "ordinal", "I", [0, 1, 2, 3, 4, 5, 6, 7, 8, 9, 10, 11])) C.1 C.2.1 C.2.2.2.2.2.2.2.2.2.1.2.2.1 (by show _ < 12; omega) hS C.2.2.2.1 (List.mem_singleton.mpr rfl) (C.2.2.2.2.1 _ hw) (fun _ q => q) hdg ?_
  have hv : ∀ n : Nat, n < 12 → ([0, 1, 2, 3, 4, 5, 6, 7, 8, 9, 10, 11] : List Int32).getD n 0 = Int32.ofNat n := by decide
  have e1 : Value.int (([0, 1, 2, 3, 4, 5, 6, 7, 8, 9, 10, 11] : List Int32).getD x.toNat 0) = ts_v x := by
    rw [hv _ (by omega)]
    show Value.int (Int32.ofNat _) = .int (Int32.ofInt _)
    rw [← Int32.ofInt_eq_ofNat, Int.toNat_of_nonneg hx.1]
  show W p l e R s m args below meth c H locs ck sk Q (F0 m (pc + 3) ls (Value.int (([0, 1, 2, 3, 4, 5, 6, 7, 8, 9, 10, 11] : List Int32).getD x.toNat 0) :: st))
  rw [e1]
  exact h0
theorem ts_ldcS (C : ts_C p l s m args meth c g cc own nL ret) {tx : String} (q : Nat) (hw : (own, index, tx, 100 + q) ∈ ts_strs) (hdg : decode cc pc = .ok (.ldc index, 2))
    (kk : P → ts_V p l e R s m args below meth c g nL ck sk Q (pc + 2) lv (ts_kv g q :: st) M) : P → ts_V p l e R s m args below meth c g nL ck sk Q pc lv st M := fun h X H locs ls hB hP hD hS hl =>
  va_ldcS C.1 C.2.1 C.2.2.2.1 (C.2.2.2.2.2.2.2.2.1.2.1 _ hw) hdg (kk h X H locs ls hB hP hD hS hl)
theorem ts_getSv (C : ts_C p l s m args meth c g cc own nL ret) {q : Nat} (hq : q < 13) (hw : Cond.fieldLink own index "java/lang/String" "value" "[B" ∈ lw_good) (hdg : decode cc pc = .ok (.getfield index, 3))
    (kk : P → ts_V p l e R s m args below meth c g nL ck sk Q (pc + 3) lv (ts_bv g q :: st) M) : P → ts_V p l e R s m args below meth c g nL ck sk Q pc lv (ts_kv g q :: st) M := fun h X H locs ls hB hP hD hS hl =>
  vk_getf C.1 C.2.1 (C.2.2.2.2.2.2.2.2.2.1.2.2.2.2.2.1.1 q hq).2.2.1 hS C.2.2.2.1 (C.2.2.2.2.1 _ hw) (fun _ q => q) hdg (kk h X H locs ls hB hP hD hS hl)
theorem ts_getSc (C : ts_C p l s m args meth c g cc own nL ret) {q : Nat} (hq : q < 13) (hw : Cond.fieldLink own index "java/lang/String" "coder" "B" ∈ lw_good) (hdg : decode cc pc = .ok (.getfield index, 3))
    (kk : P → ts_V p l e R s m args below meth c g nL ck sk Q (pc + 3) lv (ts_v 0 :: st) M) : P → ts_V p l e R s m args below meth c g nL ck sk Q pc lv (ts_kv g q :: st) M := fun h X H locs ls hB hP hD hS hl =>
  vk_getf C.1 C.2.1 (C.2.2.2.2.2.2.2.2.2.1.2.2.2.2.2.1.1 q hq).2.1 hS C.2.2.2.1 (C.2.2.2.2.1 _ hw) (fun _ q => q) hdg (kk h X H locs ls hB hP hD hS hl)
theorem ts_getCS (C : ts_C p l s m args meth c g cc own nL ret) (hw : Cond.fieldLink own index RJ0 "COMPACT_STRINGS" "Z" ∈ lw_good) (hdg : decode cc pc = .ok (.getstatic index, 3))
    (kk : P → ts_V p l e R s m args below meth c g nL ck sk Q (pc + 3) lv (ts_v 1 :: st) M) : P → ts_V p l e R s m args below meth c g nL ck sk Q pc lv st M := fun h X H locs ls hB hP hD hS hl =>
  va_gets C.1 C.2.1 C.2.2.2.2.2.2.2.2.2.1.2.2.2.2.2.2.2.2.1 hS C.2.2.2.1 (C.2.2.2.2.1 _ hw) (fun _ q => q) hdg (kk h X H locs ls hB hP hD hS hl)
theorem ts_getSIO (C : ts_C p l s m args meth c g cc own nL ret) (hw : Cond.fieldLink own index "jdk/internal/util/Preconditions" "SIOOBE_FORMATTER" "Ljava/util/function/BiFunction;" ∈ lw_good) (hdg : decode cc pc = .ok (.getstatic index, 3))
    (kk : ∀ r : Option Nat, P → ts_V p l e R s m args below meth c g nL ck sk Q (pc + 3) lv (va_rf r :: st) M) : P → ts_V p l e R s m args below meth c g nL ck sk Q pc lv st M := fun h X H locs ls hB hP hD hS hl => by
  rcases C.2.2.2.2.2.2.2.2.2.1.2.2.2.2.2.2.2.2.2.2.2 with z | ⟨t, z⟩
  · exact va_gets C.1 C.2.1 z hS C.2.2.2.1 (C.2.2.2.2.1 _ hw) (fun _ q => q) hdg (kk none h X H locs ls hB hP hD hS hl)
  · exact va_gets C.1 C.2.1 z hS C.2.2.2.1 (C.2.2.2.2.1 _ hw) (fun _ q => q) hdg (kk (some t) h X H locs ls hB hP hD hS hl)
theorem ts_clen (C : ts_C p l s m args meth c g cc own nL ret) {q : Nat} (hq : q < 13) (hdg : decode cc pc = .ok (.arraylength, 1))
    (kk : P → ts_V p l e R s m args below meth c g nL ck sk Q (pc + 1) lv (ts_v (ts_ln q) :: st) M) : P → ts_V p l e R s m args below meth c g nL ck sk Q pc lv (ts_bv g q :: st) M := fun h X H locs ls hB hP hD hS hl =>
  va_tlen C.1 C.2.1 (C.2.2.2.2.2.2.2.2.2.1.2.2.2.2.2.1.1 q hq).2.2.2 hS (v := ts_I (ts_ln q)) (by show Int32.ofNat _ = Int32.ofInt _; rw [← Int32.ofInt_eq_ofNat]; rfl) hdg (kk h X H locs ls hB hP hD hS hl)
theorem ts_cbald (C : ts_C p l s m args meth c g cc own nL ret) {q : Nat} (hq : q < 13) {x : Int} (hdg : decode cc pc = .ok (.baload, 1))
    (kk : P → ts_V p l e R s m args below meth c g nL ck sk Q (pc + 1) lv (ts_v (ts_bt q (ts_w x)) :: st) M) : ((0 ≤ ts_w x ∧ ts_w x < ts_ln q) ∧ P) → ts_V p l e R s m args below meth c g nL ck sk Q pc lv (ts_v x :: ts_bv g q :: st) M := fun h X H locs ls hB hP hD hS hl =>
  va_tb (v := ts_v (ts_bt q (ts_w x))) C.1 C.2.1 (C.2.2.2.2.2.2.2.2.2.1.2.2.2.2.2.1.1 q hq).2.2.2 hS (ts_ix (n := ts_len.getD q 0) h.1).1 (by
    have he := (ts_ix (n := ts_len.getD q 0) h.1).2
    show Value.int ((ts_byt.getD q []).getD (ts_I x).toNatClampNeg 0) = _
    unfold ts_bt
    rw [ts_vt, show (ts_w x).toNat = (ts_I x).toNatClampNeg by omega]) hdg (kk h.2 X H locs ls hB hP hD hS hl)
/-- a call on a receiver that stood before -/
theorem ts_callVR {Pw : Prop} {Qr : Option Value → ts_M → Prop} {y : MethodName} {bytes : ByteArray} {maxL : Nat} {rt : Option FieldType} {d mc ms n b : Nat} {stk : List Value} (C : ts_C p l s m args meth c g cc own nL ret) (As : List Value)
    (hcon : Pw → ts_Con l g y bytes maxL rt d mc ms (.ref b :: As) M Qr) (hy : ts_Yv y bytes maxL rt n) (hw : Cond.methodLink own index y ∈ lw_good) (hrec : ∀ (H : Heap) (locs : List Loc), va_S (ts_A g) s.heap H locs → ∃ cell : Cell, H[b]? = some cell ∧ cell.vm.isStatics = false ∧ s.vm.findClass y.cls = some cell.cls) (hn : As.length = n) (hstk : stk = As.reverse ++ .ref b :: st) (hrm : (st.map fun v => v.category).sum ≤ 8) (hR : d + 1 ≤ R.frames ∧ 8 + (maxL + 11) + 40 * d ≤ R.locals) (hf : ck + mc ≤ R.cells ∧ sk + ms ≤ R.slots) (hdg : decode cc pc = .ok (.invokevirtual index, 3))
    (kk : ∀ (v : Option Value) (M1 : ts_M), Qr v M1 → ts_V p l e R s m args below meth c g nL (ck + mc) (sk + ms) Q (pc + 3) lv (v.toList ++ st) M1) : Pw → ts_V p l e R s m args below meth c g nL ck sk Q pc lv stk M := fun h => by
  obtain ⟨h0, h1, h2, h3, h4, h5⟩ := hy
  have hts := C.2.2.2.2.1
  refine ts_after (Qr := Qr) (mc := mc) (ms := ms) (av := (Value.ref b :: As).toArray) (fun X H locs ls hB hP hD hS hl => ?_) kk
  exact va_runV ⟨C.1, C.2.1, C.2.2.1, C.2.2.2.1, hts⟩ (hcon h) ⟨ts_cw hts h2 h3 h4 h5 hw hR, hts _ h0, hts _ h1⟩ ⟨ts_blind, hrec H locs hS, fun U hU hW => ⟨rfl, ts_At.mk C.2.2.2.2.2.2.2.1 C.2.2.2.2.2.2.2.2.1 C.2.2.2.2.2.2.2.2.2.1 C.2.2.2.2.2.2.2.2.2.2.1 hB hP hD hS hU hW⟩⟩ rfl hn hl.1 hstk (lv_room hrm) hdg hf
theorem ts_recS (C : ts_C p l s m args meth c g cc own nL ret) {q : Nat} (hq : q < 13) (H : Heap) (locs : List Loc) (hS : va_S (ts_A g) s.heap H locs) : ∃ cell : Cell, H[ts_sx g (100 + q)]? = some cell ∧ cell.vm.isStatics = false ∧ s.vm.findClass "java/lang/String" = some cell.cls := vk_recv (i := q) C.2.2.2.2.2.2.2.2.2.1.2.2.2.2.2.1 hq hS

theorem ts_callRi {Pw : Prop} {P : Int → ts_M → Prop} {y : MethodName} {bytes : ByteArray} {maxL : Nat} {rt : Option FieldType} {d mc ms n b : Nat} {stk : List Value} (C : ts_C p l s m args meth c g cc own nL ret) (As : List Value)
    (hcon : Pw → ts_Con l g y bytes maxL rt d mc ms (.ref b :: As) M (ts_Ri P)) (hy : ts_Yv y bytes maxL rt n) (hw : Cond.methodLink own index y ∈ lw_good) (hrec : ∀ (H : Heap) (locs : List Loc), va_S (ts_A g) s.heap H locs → ∃ cell : Cell, H[b]? = some cell ∧ cell.vm.isStatics = false ∧ s.vm.findClass y.cls = some cell.cls) (hn : As.length = n) (hstk : stk = As.reverse ++ .ref b :: st) (hrm : (st.map fun v => v.category).sum ≤ 8) (hR : d + 1 ≤ R.frames ∧ 8 + (maxL + 11) + 40 * d ≤ R.locals) (hf : ck + mc ≤ R.cells ∧ sk + ms ≤ R.slots) (hdg : decode cc pc = .ok (.invokevirtual index, 3))
    (kk : ∀ (r : Int) M1, P r M1 → ts_V p l e R s m args below meth c g nL (ck + mc) (sk + ms) Q (pc + 3) lv (ts_v r :: st) M1) : Pw → ts_V p l e R s m args below meth c g nL ck sk Q pc lv stk M :=
  ts_callVR C As hcon hy hw hrec hn hstk hrm hR hf hdg (fun v M1 h1 => by obtain ⟨r, rfl, h2⟩ := h1; exact kk r M1 h2)
theorem ts_callRv {Pw : Prop} {P : ts_M → Prop} {y : MethodName} {bytes : ByteArray} {maxL : Nat} {rt : Option FieldType} {d mc ms n b : Nat} {stk : List Value} (C : ts_C p l s m args meth c g cc own nL ret) (As : List Value)
    (hcon : Pw → ts_Con l g y bytes maxL rt d mc ms (.ref b :: As) M (ts_Rv P)) (hy : ts_Yv y bytes maxL rt n) (hw : Cond.methodLink own index y ∈ lw_good) (hrec : ∀ (H : Heap) (locs : List Loc), va_S (ts_A g) s.heap H locs → ∃ cell : Cell, H[b]? = some cell ∧ cell.vm.isStatics = false ∧ s.vm.findClass y.cls = some cell.cls) (hn : As.length = n) (hstk : stk = As.reverse ++ .ref b :: st) (hrm : (st.map fun v => v.category).sum ≤ 8) (hR : d + 1 ≤ R.frames ∧ 8 + (maxL + 11) + 40 * d ≤ R.locals) (hf : ck + mc ≤ R.cells ∧ sk + ms ≤ R.slots) (hdg : decode cc pc = .ok (.invokevirtual index, 3))
    (kk : ∀ M1, P M1 → ts_V p l e R s m args below meth c g nL (ck + mc) (sk + ms) Q (pc + 3) lv st M1) : Pw → ts_V p l e R s m args below meth c g nL ck sk Q pc lv stk M :=
  ts_callVR C As hcon hy hw hrec hn hstk hrm hR hf hdg (fun v M1 h1 => by obtain ⟨rfl, h2⟩ := h1; exact kk M1 h2)
theorem ts_callVr {Pw : Prop} {P : Int → ts_M → Prop} {y : MethodName} {bytes : ByteArray} {maxL : Nat} {rt : Option FieldType} {d mc ms n a ci N : Nat} {T : u_T} {F : (Int → Int) → (Int → Int64) → (Int → UInt64) → List Value} {stk : List Value} (C : ts_C p l s m args meth c g cc own nL ret) (As : List Value)
    (hcon : Pw → ts_Con l g y bytes maxL rt d mc ms (.ref (ts_ad g a) :: As) M (ts_Rr g P)) (hy : ts_Yv y bytes maxL rt n) (hw : Cond.methodLink own index y ∈ lw_good) (ha : a < 177) (hG : ts_O g a ci F) (hc : vwCl[ci]? = some (y.cls, T, N)) (hn : As.length = n) (hstk : stk = As.reverse ++ .ref (ts_ad g a) :: st) (hrm : (st.map fun v => v.category).sum ≤ 8) (hR : d + 1 ≤ R.frames ∧ 8 + (maxL + 11) + 40 * d ≤ R.locals) (hf : ck + mc ≤ R.cells ∧ sk + ms ≤ R.slots) (hdg : decode cc pc = .ok (.invokevirtual index, 3))
    (kk : ∀ (r : Int) M1, P r M1 → ts_V p l e R s m args below meth c g nL (ck + mc) (sk + ms) Q (pc + 3) lv (ts_rv g r :: st) M1) : Pw → ts_V p l e R s m args below meth c g nL ck sk Q pc lv stk M :=
  ts_callV C As hcon hy hw ha hG hc hn hstk hrm hR hf hdg (fun v M1 h1 => by obtain ⟨r, rfl, h2⟩ := h1; exact kk r M1 h2)
theorem ts_callVn {Pw : Prop} {P : Int → ts_M → Prop} {y : MethodName} {bytes : ByteArray} {maxL : Nat} {rt : Option FieldType} {d mc ms n a ci N : Nat} {T : u_T} {F : (Int → Int) → (Int → Int64) → (Int → UInt64) → List Value} {stk : List Value} (C : ts_C p l s m args meth c g cc own nL ret) (As : List Value)
    (hcon : Pw → ts_Con l g y bytes maxL rt d mc ms (.ref (ts_ad g a) :: As) M (ts_Rn g P)) (hy : ts_Yv y bytes maxL rt n) (hw : Cond.methodLink own index y ∈ lw_good) (ha : a < 177) (hG : ts_O g a ci F) (hc : vwCl[ci]? = some (y.cls, T, N)) (hn : As.length = n) (hstk : stk = As.reverse ++ .ref (ts_ad g a) :: st) (hrm : (st.map fun v => v.category).sum ≤ 8) (hR : d + 1 ≤ R.frames ∧ 8 + (maxL + 11) + 40 * d ≤ R.locals) (hf : ck + mc ≤ R.cells ∧ sk + ms ≤ R.slots) (hdg : decode cc pc = .ok (.invokevirtual index, 3))
    (kk : ∀ (r : Int) M1, P r M1 → ts_V p l e R s m args below meth c g nL (ck + mc) (sk + ms) Q (pc + 3) lv (ts_cx g r :: st) M1) : Pw → ts_V p l e R s m args below meth c g nL ck sk Q pc lv stk M :=
  ts_callV C As hcon hy hw ha hG hc hn hstk hrm hR hf hdg (fun v M1 h1 => by obtain ⟨r, rfl, h2⟩ := h1; exact kk r M1 h2)
theorem ts_rreti {r : Int} {Qf : Int → ts_M → Prop} {mc ms : Nat} {E : String} (C : ts_C p l s m args meth c g cc own nL (some (.object E))) (hc : ck ≤ mc) (hs : sk ≤ ms) (hdg : decode cc pc = .ok (.areturn, 1)) : Qf r M → ts_V p l e R s m args below meth c g nL ck sk (MQ below (ts_Q g (ts_Rr g Qf)) args s mc ms (ts_A g)) pc lv [ts_rv g r] M := fun h => ts_aret C (Or.inl ⟨_, rfl⟩) (Or.inr ⟨_, rfl⟩) hc hs hdg ⟨r, rfl, h⟩
theorem ts_nreti {r : Int} {Qf : Int → ts_M → Prop} {mc ms : Nat} {E : String} (C : ts_C p l s m args meth c g cc own nL (some (.object E))) (hc : ck ≤ mc) (hs : sk ≤ ms) (hdg : decode cc pc = .ok (.areturn, 1)) : Qf r M → ts_V p l e R s m args below meth c g nL ck sk (MQ below (ts_Q g (ts_Rn g Qf)) args s mc ms (ts_A g)) pc lv [ts_cx g r] M := fun h => ts_aret C (Or.inl ⟨_, rfl⟩) (va_rf_or _) hc hs hdg ⟨r, rfl, h⟩
theorem ts_ldcw (C : ts_C p l s m args meth c g cc own nL ret) {v : Int32} (hdg : decode cc pc = .ok (.ldc_w index, 3)) (hw : Cond.constant own index v ∈ lw_good) (x : Int) (hx : v = ts_I x)
    (kk : P → ts_V p l e R s m args below meth c g nL ck sk Q (pc + 3) lv (ts_v x :: st) M) : P → ts_V p l e R s m args below meth c g nL ck sk Q pc lv st M := fun h X H locs ls hB hP hD hS hl => lv_ldcw C.1 C.2.1 C.2.2.2.1 (C.2.2.2.2.1 _ hw) hdg (by rw [hx]; exact (kk h X H locs ls hB hP hD hS hl))
/-- a byte that is handed back -/
theorem ts_byte {x : Int} (h : -128 ≤ ts_w x ∧ ts_w x < 128) : narrow .byte (ts_v x) = ts_v x ∧ fits .byte (ts_v x) = true := by
  have hx : x.bmod 4294967296 = ts_w x := by simp [ts_w]
  have e : ts_I x = ts_I (ts_w x) := (ts_I_w x).symm
  have hb : (ts_I (ts_w x)).toInt8.toInt32 = ts_I (ts_w x) := by
    apply Int32.toInt_inj.mp
    rw [Int8.toInt_toInt32, Int32.toInt_toInt8]
    show ((Int32.ofInt (ts_w x)).toInt).bmod _ = (Int32.ofInt (ts_w x)).toInt
    rw [Int32.toInt_ofInt_of_le (by omega) (by omega)]
    exact Int.bmod_eq_of_le (by omega) (by omega)
  constructor
  · show Value.int _ = Value.int _
    rw [e, hb]
  · show _ = true
    rw [show ts_v x = .int (ts_I (ts_w x)) from by rw [← e]]
    have hw : (ts_I (ts_w x)).toInt = ts_w x := ts_w_eq (by omega) (by omega)
    have e1 : (-128 : Int32).toInt = -128 := by decide
    have e2 : (127 : Int32).toInt = 127 := by decide
    simp only [fits, Bool.and_eq_true, decide_eq_true_eq, Int32.le_iff_toInt_le, hw, e1, e2]
    omega
theorem ts_breti {r : Int} {Qf : Int → ts_M → Prop} {mc ms : Nat} (C : ts_C p l s m args meth c g cc own nL (some .byte)) (hc : ck ≤ mc) (hs : sk ≤ ms) (hdg : decode cc pc = .ok (.ireturn, 1)) : ((-128 ≤ ts_w r ∧ ts_w r < 128) ∧ Qf r M) → ts_V p l e R s m args below meth c g nL ck sk (MQ below (ts_Q g (ts_Ri Qf)) args s mc ms (ts_A g)) pc lv [ts_v r] M := fun h X H locs ls hB hP hD hS hl => by
  have hlocks : meth.locks = false := C.2.2.2.2.2.2.1
  exact W.widen hc hs (W.zret C.1 C.2.1 C.2.2.2.2.2.1 (ts_byte h.1).1 (fun t ht hW => ts_end C hB hP hD hS ⟨r, rfl, h.2⟩ ht hW) hS.2.2 hdg)
/-- the call of Enum.ordinal on a command -/
theorem ts_callOrd {Pw : Prop} {P : Int → ts_M → Prop} {x : Int} {bytes : ByteArray} {maxL : Nat} {rt : Option FieldType} {d : Nat} (C : ts_C p l s m args meth c g cc own nL ret)
    (hcon : (0 ≤ x ∧ x < 12) → Pw → ts_Con l g ⟨"java/lang/Enum", "ordinal", "()I"⟩ bytes maxL rt d 0 0 [.ref (ts_sx g x.toNat)] M (ts_Ri P)) (h0 : Cond.instanceMethod ⟨"java/lang/Enum", "ordinal", "()I"⟩ ∈ lw_good) (h1 : Cond.selects RX2 ⟨RX2, "ordinal", "()I"⟩ ⟨"java/lang/Enum", "ordinal", "()I"⟩ ∈ lw_good) (h2 : Cond.initialized "java/lang/Enum" ∈ lw_good) (h3 : Cond.code ⟨"java/lang/Enum", "ordinal", "()I"⟩ bytes maxL rt ∈ lw_good) (h6 : Cond.sameMethod RX2 "java/lang/Enum" "ordinal" "()I" ∈ lw_good) (hw : Cond.methodLink own index ⟨RX2, "ordinal", "()I"⟩ ∈ lw_good)
    (hrm : (st.map fun v => v.category).sum ≤ 8) (hR : d + 1 ≤ R.frames ∧ 8 + (maxL + 11) + 40 * d ≤ R.locals) (hf : ck + 0 ≤ R.cells ∧ sk + 0 ≤ R.slots) (hdg : decode cc pc = .ok (.invokevirtual index, 3))
    (kk : ∀ (r : Int) M1, P r M1 → ts_V p l e R s m args below meth c g nL ck sk Q (pc + 3) lv (ts_v r :: st) M1) : ((0 ≤ x ∧ x < 12) ∧ Pw) → ts_V p l e R s m args below meth c g nL ck sk Q pc lv (ts_cx g x :: st) M := fun h => by
  have hts := C.2.2.2.2.1
  rw [ts_cx_of h.1.1]
  refine ts_after (Qr := ts_Ri P) (mc := 0) (ms := 0) (av := #[Value.ref (ts_sx g x.toNat)]) (fun X H locs ls hB hP hD hS hl => ?_) (fun v M1 h1 => by obtain ⟨r, rfl, h2⟩ := h1; exact kk r M1 h2)
  exact va_runU (C := RX2) (owner := "java/lang/Enum") (As := []) (n := 0) ⟨C.1, C.2.1, C.2.2.1, C.2.2.2.1, hts⟩ (hcon h.1 h.2) ⟨⟨rfl, rfl, hR.1, hR.2, ts_pays h3 hts, List.mem_cons_self⟩, hts _ h3, hts _ h2, by decide, ts_sig (y := ⟨RX2, "ordinal", "()I"⟩) (by decide +kernel), hts _ hw, hts _ h6, va_Decl.of (hts _ h0) (hts _ h3), hts _ h1, hts _ h0⟩ ⟨ts_blind, va_recvE (i := x.toNat) C.2.2.2.2.2.2.2.2.2.1.2.2.1 (by show _ < 12; omega) hS, fun U hU hW => ⟨rfl, ts_At.mk C.2.2.2.2.2.2.2.1 C.2.2.2.2.2.2.2.2.1 C.2.2.2.2.2.2.2.2.2.1 C.2.2.2.2.2.2.2.2.2.2.1 hB hP hD hS hU hW⟩⟩ rfl rfl hl.1 rfl (lv_room hrm) hdg hf

def ts_cpy (M : ts_M) (a b : Nat) (n : Int) : ts_M := (fun c j => if c = b ∧ 0 ≤ j ∧ j < n then M.1 a j else M.1 c j, M.2)
theorem ts_cpy_ne {M : ts_M} {a b : Nat} {n : Int} {c : Nat} (h : c ≠ b) : (ts_cpy M a b n).1 c = M.1 c := by funext j; simp [ts_cpy, h]
theorem ts_copyI {P : ts_M → Prop} {a b n n' : Nat} {x : Int} (C : ts_C p l s m args meth c g cc own nL ret) (ha : a < 177) (hb : b < 177) (hG1 : ∀ f h d, ts_G g a f h d = ts_ia g n f) (hG2 : ∀ f h d, ts_G g b f h d = ts_ia g n' f) (hw : Cond.methodLink own index arraycopyName ∈ lw_good) (hw1 : Cond.native arraycopyName ∈ lw_good) (hw2 : Cond.static arraycopyName ∈ lw_good) (hw3 : Cond.initialized "java/lang/System" ∈ lw_good) (hrm : (st.map fun v => v.category).sum ≤ 8) (hfr : 1 ≤ R.frames) (hlo : 8 + (nativeFrameWords "java/lang/System" "arraycopy" 5 + 11) ≤ R.locals) (hdg : decode cc pc = .ok (.invokestatic index, 3))
    (kk : ∀ M1, P M1 → ts_V p l e R s m args below meth c g nL ck sk Q (pc + 3) lv st M1) : ((0 ≤ ts_w x ∧ ts_w x ≤ (n : Int) ∧ ts_w x ≤ (n' : Int)) ∧ ∀ M1, M1 = ts_cpy M a b (ts_w x) → P M1) → ts_V p l e R s m args below meth c g nL ck sk Q pc lv (ts_v x :: ts_v 0 :: .ref (ts_ad g b) :: ts_v 0 :: .ref (ts_ad g a) :: st) M := fun h X H locs ls hB hP hD hS hl => by
  obtain ⟨⟨h0, h1, h2⟩, hq⟩ := h
  have hn : ¬ ts_I x < 0 := fun q => by have := ts_I_lt0.mp q; omega
  have he : (((ts_I x).toNatClampNeg : Nat) : Int) = ts_w x := Int.toNat_of_nonneg h0
  have e0 : (ts_I 0).toNatClampNeg = 0 := by decide
  have ha0 : (ts_ws g M ++ X)[a]? = some (ts_ad g a, .inl (g.2.1 0, n, .inl (fun j : Nat => ts_I (M.1 a (j : Int))))) := by rw [ts_ws_get g M X ha, hG1]
  have hb0 : (ts_ws g M ++ X)[b]? = some (ts_ad g b, .inl (g.2.1 0, n', .inl (fun j : Nat => ts_I (M.1 b (j : Int))))) := by rw [ts_ws_get g M X hb, hG2]
  have hupd : (fun j : Nat => ts_I ((ts_cpy M a b (ts_w x)).1 b (j : Int))) = va_cpy (fun j : Nat => ts_I (M.1 a (j : Int))) (fun j : Nat => ts_I (M.1 b (j : Int))) 0 0 (ts_I x).toNatClampNeg := by
    funext j
    by_cases hj : (j : Int) < ts_w x
    · rw [va_cpy, if_pos ⟨by omega, by omega⟩]
      simp only [ts_cpy]
      rw [if_pos ⟨trivial, by omega, hj⟩, show 0 + (j - 0) = j by omega]
    · rw [va_cpy, if_neg (by omega)]
      simp only [ts_cpy]
      rw [if_neg (fun q => hj q.2.2)]
  have hset : (ts_ws g M ++ X).set b (ts_ad g b, .inl (g.2.1 0, n', .inl (va_cpy (fun j : Nat => ts_I (M.1 a (j : Int))) (fun j : Nat => ts_I (M.1 b (j : Int))) 0 0 (ts_I x).toNatClampNeg))) = ts_ws g (ts_cpy M a b (ts_w x)) ++ X := by
    refine ts_ws_set g X hb ?_ (fun c hc => by rw [ts_cpy_ne hc]; rfl)
    rw [hG2, ← hupd]
  refine va_copyi C.1 C.2.1 (by rw [C.2.2.1, hl.1]) C.2.2.2.1 (C.2.2.2.2.1 _ hw) (C.2.2.2.2.1 _ hw1) (C.2.2.2.2.1 _ hw2) (C.2.2.2.2.1 _ hw3) C.2.2.2.2.2.2.2.1 hP hD hS a b 0 0 (ty := .int) ha0 hb0 rfl rfl rfl (by decide) (by decide) hn (by rw [e0]; omega) (by rw [e0]; omega) (fun i hi => rfl) hfr (by omega) hdg (fun H1 locs1 hP1 hD1 hS1 => ?_)
  rw [e0] at hP1 hD1
  rw [hset] at hP1 hD1
  exact kk _ (hq _ rfl) X H1 locs1 ls (ts_SB_of hB (ts_cpy_ne (by omega)) (ts_cpy_ne (by omega))) hP1 hD1 hS1 hl

end TSQ
theorem qo_1113 : Cond.instanceMethod ⟨"java/lang/Enum", "ordinal", "()I"⟩ ∈ lw_good := ts_gd (List.mem_of_getElem? (i := 1113) (by decide +kernel)) (by decide +kernel)
theorem qo_1112 : Cond.selects "TeaspoonSalon$Command" ⟨"TeaspoonSalon$Command", "ordinal", "()I"⟩ ⟨"java/lang/Enum", "ordinal", "()I"⟩ ∈ lw_good := ts_gd (List.mem_of_getElem? (i := 1112) (by decide +kernel)) (by decide +kernel)
theorem qo_133 : Cond.initialized "java/lang/Enum" ∈ lw_good := ts_gd (List.mem_of_getElem? (i := 133) (by decide +kernel)) (by decide +kernel)
theorem qo_1114 : Cond.code yJx29ce0_ordinal_8abf5 cJx29ce0_ordinal_8abf5 1 (some .int) ∈ lw_good := ts_gd (List.mem_of_getElem? (i := 1114) (by decide +kernel)) (by decide +kernel)
theorem qo_1110 : Cond.sameMethod "TeaspoonSalon$Command" "java/lang/Enum" "ordinal" "()I" ∈ lw_good := ts_gd (List.mem_of_getElem? (i := 1110) (by decide +kernel)) (by decide +kernel)
theorem qo_2632 : Cond.fieldLink "java/lang/Enum" 7 "java/lang/Enum" "ordinal" "I" ∈ lw_good := ts_gd (List.mem_of_getElem? (i := 2632) (by decide +kernel)) (by decide +kernel)
theorem mOrd {l : Launch} {g : ts_W} (hl : l.stackTraces = false) {x : Int} (hx : 0 ≤ x ∧ x < 12) {Q : Int → ts_M → Prop} {M : ts_M} : Q x M → ts_Con l g yJx29ce0_ordinal_8abf5 cJx29ce0_ordinal_8abf5 1 (some .int) 0 0 0 [.ref (ts_sx g x.toNat)] M (ts_Ri Q) := by
  intro h0
  refine ts_Con.of hl (by decide) (Nat.le_of_ble_eq_true rfl) ?_
  intro p e s m args below meth c C
  revert h0
  have hl0 : lv_args 0 [.ref (ts_sx g x.toNat)] = [(0, .ref (ts_sx g x.toNat))] := rfl
  rw [hl0]
  refine ts_aload_n C dJx29ce0_ordinal_8abf5_0 rfl 0 rfl ?_
  refine ts_getOrd C qo_2632 dJx29ce0_ordinal_8abf5_1 hx ?_
  exact ts_ireti C (Nat.zero_le _) (Nat.zero_le _) dJx29ce0_ordinal_8abf5_4
theorem ts_ord {p : Program} {l : Launch} {e : Env} {R : Room} {s : State} {m : MethodId} {args : Array Value} {below : List Frame} {meth : Method} {c : Code} {Q : State → Prop} {g : ts_W} {cc : ByteArray} {own : String} {nL ck sk : Nat} {ret : Option FieldType} {P : Prop} {pc : Nat} {lv : List (Nat × Value)} {st : List Value} {M : ts_M} {index : Nat} {x : Int} (C : ts_C p l s m args meth c g cc own nL ret) (hw : Cond.methodLink own index ⟨RX2, "ordinal", "()I"⟩ ∈ lw_good) (hrm : (st.map fun v => v.category).sum ≤ 8) (hR : 1 ≤ R.frames ∧ 20 ≤ R.locals) (hf : ck + 0 ≤ R.cells ∧ sk + 0 ≤ R.slots) (hdg : decode cc pc = .ok (.invokevirtual index, 3))
    (kk : P → ts_V p l e R s m args below meth c g nL ck sk Q (pc + 3) lv (ts_v x :: st) M) : ((0 ≤ x ∧ x < 12) ∧ P) → ts_V p l e R s m args below meth c g nL ck sk Q pc lv (ts_cx g x :: st) M :=
  ts_callOrd (Pw := P) (P := fun r M1 => P ∧ r = x ∧ M1 = M) (d := 0) C (fun hx h => mOrd C.2.2.2.2.2.2.2.2.2.2.2 hx ⟨h, rfl, rfl⟩) qo_1113 qo_1112 qo_133 qo_1114 qo_1110 hw hrm ⟨hR.1, by show 8 + (1 + 11) + 40 * 0 ≤ _; omega⟩ hf hdg (fun r M1 h => by obtain ⟨h, rfl, rfl⟩ := h; exact kk h)

