def wL_addSpoon (p2 : Int) (p3 : Int) (Q : Int → ts_M → Prop) (M : ts_M) : Prop :=
  (wX11_addSpoon p2 p3 (fun r2 M1 => (∀ M5, M5 = ts_sl M1 175 0 (ts_L r2) → Q 0 M5)) (fun E M3 => (E = "java/lang/IllegalArgumentException" ∧ Q 1 M3) ∨ (E = "java/lang/IllegalStateException" ∧ Q 2 M3)) M)
set_option maxRecDepth 100000 in
set_option maxHeartbeats 4000000 in
theorem mL_addSpoon {l : Launch} {g : ts_W} (hl : l.stackTraces = false) {p2 : Int} {p3 : Int} {Q : Int → ts_M → Prop} {M : ts_M} : wL_addSpoon p2 p3 Q M → ts_ConW l g yL_addSpoon cL_addSpoon 5 (some .int) [(0, 10, 13, 13), (0, 10, 17, 15)] 9 1 6 [.ref (ts_ad g 154), ts_v p2, ts_v p3, .ref (ts_ad g 175)] M (ts_Ri Q) := by
  intro h0
  refine ts_ConW.of hl (by decide) (Nat.le_of_ble_eq_true rfl) ?_
  intro p e s m args below meth c hT C
  revert h0
  unfold wL_addSpoon
  have hl0 : lv_args 0 [.ref (ts_ad g 154), ts_v p2, ts_v p3, .ref (ts_ad g 175)] = [(0, .ref (ts_ad g 154)), (1, ts_v p2), (2, ts_v p3), (3, .ref (ts_ad g 175))] := rfl
  rw [hl0]
  refine ts_aload_n C dL_addSpoon_0 rfl 3 rfl ?_
  refine ts_iconst C dL_addSpoon_1 0 rfl ?_
  refine ts_aload_n C dL_addSpoon_2 rfl 0 rfl ?_
  refine ts_iload_n C dL_addSpoon_3 rfl 1 rfl ?_
  refine ts_iload_n C dL_addSpoon_4 rfl 2 rfl ?_
  refine ts_catchVi C hT [ts_v p2, ts_v p3] (mX11_addSpoon hl) kX11_addSpoon q_1091 (by decide) shX11 rfl rfl rfl (Nat.le_of_ble_eq_true rfl) ⟨Nat.le_of_ble_eq_true rfl, Nat.le_of_ble_eq_true rfl⟩ ⟨Nat.le_of_ble_eq_true rfl, Nat.le_of_ble_eq_true rfl⟩ dL_addSpoon_5 ?_ (fun r2 M1 => ?_)
  · rintro E M3 (⟨rfl, h⟩ | ⟨rfl, h⟩)
    · refine ⟨13, ⟨[], [(0, 10, 17, 15)], 0, 10, 13, rfl, by decide, by decide, by decide, q_1089, qc_IllegalArgumentException, fun _ h => absurd h List.not_mem_nil⟩, fun q4 => ?_⟩
      revert h
      refine ts_astore C dL_addSpoon_13 (by decide) (lv' := [(4, .ref q4), (0, .ref (ts_ad g 154)), (1, ts_v p2), (2, ts_v p3), (3, .ref (ts_ad g 175))]) rfl ?_
      refine ts_iconst C dL_addSpoon_15 1 rfl ?_
      exact ts_ireti C (Nat.le_of_ble_eq_true rfl) (Nat.le_of_ble_eq_true rfl) dL_addSpoon_16
    · refine ⟨17, ⟨[(0, 10, 13, 13)], [], 0, 10, 15, rfl, by decide, by decide, by decide, q_1090, qc_IllegalStateException, List.forall_mem_cons.mpr ⟨⟨by decide, "java/lang/IllegalArgumentException", q_1089, by decide⟩, fun _ h => absurd h List.not_mem_nil⟩⟩, fun q4 => ?_⟩
      revert h
      refine ts_astore C dL_addSpoon_17 (by decide) (lv' := [(4, .ref q4), (0, .ref (ts_ad g 154)), (1, ts_v p2), (2, ts_v p3), (3, .ref (ts_ad g 175))]) rfl ?_
      refine ts_iconst C dL_addSpoon_19 2 rfl ?_
      exact ts_ireti C (Nat.le_of_ble_eq_true rfl) (Nat.le_of_ble_eq_true rfl) dL_addSpoon_20
  refine ts_i2l C dL_addSpoon_8 ?_
  refine ts_lastc C (by decide) shG175 tw_0 (by decide) dL_addSpoon_9 (fun M5 => ?_)
  refine ts_goto C 21 dL_addSpoon_10 rfl ?_
  refine ts_iconst C dL_addSpoon_21 0 rfl ?_
  exact ts_ireti C (Nat.le_of_ble_eq_true rfl) (Nat.le_of_ble_eq_true rfl) dL_addSpoon_22
def wL_propose (p2 : Int) (Q : Int → ts_M → Prop) (M : ts_M) : Prop :=
  (wX11_propose p2 (fun r2 M1 => (∀ M5, M5 = ts_sl M1 175 0 (ts_L r2) → Q 0 M5)) (fun E M3 => (E = "java/lang/IllegalArgumentException" ∧ Q 1 M3) ∨ (E = "java/lang/IllegalStateException" ∧ Q 2 M3)) M)
set_option maxRecDepth 100000 in
set_option maxHeartbeats 4000000 in
theorem mL_propose {l : Launch} {g : ts_W} (hl : l.stackTraces = false) {p2 : Int} {Q : Int → ts_M → Prop} {M : ts_M} : wL_propose p2 Q M → ts_ConW l g yL_propose cL_propose 4 (some .int) [(0, 9, 12, 13), (0, 9, 15, 15)] 9 1 6 [.ref (ts_ad g 154), ts_v p2, .ref (ts_ad g 175)] M (ts_Ri Q) := by
  intro h0
  refine ts_ConW.of hl (by decide) (Nat.le_of_ble_eq_true rfl) ?_
  intro p e s m args below meth c hT C
  revert h0
  unfold wL_propose
  have hl0 : lv_args 0 [.ref (ts_ad g 154), ts_v p2, .ref (ts_ad g 175)] = [(0, .ref (ts_ad g 154)), (1, ts_v p2), (2, .ref (ts_ad g 175))] := rfl
  rw [hl0]
  refine ts_aload_n C dL_propose_0 rfl 2 rfl ?_
  refine ts_iconst C dL_propose_1 0 rfl ?_
  refine ts_aload_n C dL_propose_2 rfl 0 rfl ?_
  refine ts_iload_n C dL_propose_3 rfl 1 rfl ?_
  refine ts_catchVi C hT [ts_v p2] (mX11_propose hl) kX11_propose q_1397 (by decide) shX11 rfl rfl rfl (Nat.le_of_ble_eq_true rfl) ⟨Nat.le_of_ble_eq_true rfl, Nat.le_of_ble_eq_true rfl⟩ ⟨Nat.le_of_ble_eq_true rfl, Nat.le_of_ble_eq_true rfl⟩ dL_propose_4 ?_ (fun r2 M1 => ?_)
  · rintro E M3 (⟨rfl, h⟩ | ⟨rfl, h⟩)
    · refine ⟨12, ⟨[], [(0, 9, 15, 15)], 0, 9, 13, rfl, by decide, by decide, by decide, q_1089, qc_IllegalArgumentException, fun _ h => absurd h List.not_mem_nil⟩, fun q4 => ?_⟩
      revert h
      refine ts_astore_n C dL_propose_12 rfl (by decide) (lv' := [(3, .ref q4), (0, .ref (ts_ad g 154)), (1, ts_v p2), (2, .ref (ts_ad g 175))]) rfl ?_
      refine ts_iconst C dL_propose_13 1 rfl ?_
      exact ts_ireti C (Nat.le_of_ble_eq_true rfl) (Nat.le_of_ble_eq_true rfl) dL_propose_14
    · refine ⟨15, ⟨[(0, 9, 12, 13)], [], 0, 9, 15, rfl, by decide, by decide, by decide, q_1090, qc_IllegalStateException, List.forall_mem_cons.mpr ⟨⟨by decide, "java/lang/IllegalArgumentException", q_1089, by decide⟩, fun _ h => absurd h List.not_mem_nil⟩⟩, fun q4 => ?_⟩
      revert h
      refine ts_astore_n C dL_propose_15 rfl (by decide) (lv' := [(3, .ref q4), (0, .ref (ts_ad g 154)), (1, ts_v p2), (2, .ref (ts_ad g 175))]) rfl ?_
      refine ts_iconst C dL_propose_16 2 rfl ?_
      exact ts_ireti C (Nat.le_of_ble_eq_true rfl) (Nat.le_of_ble_eq_true rfl) dL_propose_17
  refine ts_i2l C dL_propose_7 ?_
  refine ts_lastc C (by decide) shG175 tw_0 (by decide) dL_propose_8 (fun M5 => ?_)
  refine ts_goto C 18 dL_propose_9 rfl ?_
  refine ts_iconst C dL_propose_18 0 rfl ?_
  exact ts_ireti C (Nat.le_of_ble_eq_true rfl) (Nat.le_of_ble_eq_true rfl) dL_propose_19
def wL_moveMain (p2 : Int) (Q : Int → ts_M → Prop) (M : ts_M) : Prop :=
  (wX11_moveMain p2 (fun r2 M1 => (∀ M5, M5 = ts_sl M1 175 0 (ts_L r2) → Q 0 M5)) (fun E M3 => (E = "java/util/NoSuchElementException" ∧ Q 1 M3) ∨ (E = "java/lang/UnsupportedOperationException" ∧ Q 2 M3)) M)
set_option maxRecDepth 100000 in
set_option maxHeartbeats 4000000 in
theorem mL_moveMain {l : Launch} {g : ts_W} (hl : l.stackTraces = false) {p2 : Int} {Q : Int → ts_M → Prop} {M : ts_M} : wL_moveMain p2 Q M → ts_ConW l g yL_moveMain cL_moveMain 4 (some .int) [(0, 9, 12, 24), (0, 9, 15, 26)] 9 1 6 [.ref (ts_ad g 154), ts_v p2, .ref (ts_ad g 175)] M (ts_Ri Q) := by
  intro h0
  refine ts_ConW.of hl (by decide) (Nat.le_of_ble_eq_true rfl) ?_
  intro p e s m args below meth c hT C
  revert h0
  unfold wL_moveMain
  have hl0 : lv_args 0 [.ref (ts_ad g 154), ts_v p2, .ref (ts_ad g 175)] = [(0, .ref (ts_ad g 154)), (1, ts_v p2), (2, .ref (ts_ad g 175))] := rfl
  rw [hl0]
  refine ts_aload_n C dL_moveMain_0 rfl 2 rfl ?_
  refine ts_iconst C dL_moveMain_1 0 rfl ?_
  refine ts_aload_n C dL_moveMain_2 rfl 0 rfl ?_
  refine ts_iload_n C dL_moveMain_3 rfl 1 rfl ?_
  refine ts_catchVi C hT [ts_v p2] (mX11_moveMain hl) kX11_moveMain q_1408 (by decide) shX11 rfl rfl rfl (Nat.le_of_ble_eq_true rfl) ⟨Nat.le_of_ble_eq_true rfl, Nat.le_of_ble_eq_true rfl⟩ ⟨Nat.le_of_ble_eq_true rfl, Nat.le_of_ble_eq_true rfl⟩ dL_moveMain_4 ?_ (fun r2 M1 => ?_)
  · rintro E M3 (⟨rfl, h⟩ | ⟨rfl, h⟩)
    · refine ⟨12, ⟨[], [(0, 9, 15, 26)], 0, 9, 24, rfl, by decide, by decide, by decide, q_1406, qc_NoSuchElementException, fun _ h => absurd h List.not_mem_nil⟩, fun q4 => ?_⟩
      revert h
      refine ts_astore_n C dL_moveMain_12 rfl (by decide) (lv' := [(3, .ref q4), (0, .ref (ts_ad g 154)), (1, ts_v p2), (2, .ref (ts_ad g 175))]) rfl ?_
      refine ts_iconst C dL_moveMain_13 1 rfl ?_
      exact ts_ireti C (Nat.le_of_ble_eq_true rfl) (Nat.le_of_ble_eq_true rfl) dL_moveMain_14
    · refine ⟨15, ⟨[(0, 9, 12, 24)], [], 0, 9, 26, rfl, by decide, by decide, by decide, q_1407, qc_UnsupportedOperationException, List.forall_mem_cons.mpr ⟨⟨by decide, "java/util/NoSuchElementException", q_1406, by decide⟩, fun _ h => absurd h List.not_mem_nil⟩⟩, fun q4 => ?_⟩
      revert h
      refine ts_astore_n C dL_moveMain_15 rfl (by decide) (lv' := [(3, .ref q4), (0, .ref (ts_ad g 154)), (1, ts_v p2), (2, .ref (ts_ad g 175))]) rfl ?_
      refine ts_iconst C dL_moveMain_16 2 rfl ?_
      exact ts_ireti C (Nat.le_of_ble_eq_true rfl) (Nat.le_of_ble_eq_true rfl) dL_moveMain_17
  refine ts_i2l C dL_moveMain_7 ?_
  refine ts_lastc C (by decide) shG175 tw_0 (by decide) dL_moveMain_8 (fun M5 => ?_)
  refine ts_goto C 18 dL_moveMain_9 rfl ?_
  refine ts_iconst C dL_moveMain_18 0 rfl ?_
  exact ts_ireti C (Nat.le_of_ble_eq_true rfl) (Nat.le_of_ble_eq_true rfl) dL_moveMain_19
def wL_moveAmendment (p2 : Int) (Q : Int → ts_M → Prop) (M : ts_M) : Prop :=
  (wX11_moveAmendment p2 (fun r2 M1 => (∀ M5, M5 = ts_sl M1 175 0 (ts_L r2) → Q 0 M5)) (fun E M3 => (E = "java/lang/IllegalArgumentException" ∧ Q 1 M3) ∨ (E = "java/lang/UnsupportedOperationException" ∧ Q 2 M3)) M)
set_option maxRecDepth 100000 in
set_option maxHeartbeats 4000000 in
theorem mL_moveAmendment {l : Launch} {g : ts_W} (hl : l.stackTraces = false) {p2 : Int} {Q : Int → ts_M → Prop} {M : ts_M} : wL_moveAmendment p2 Q M → ts_ConW l g yL_moveAmendment cL_moveAmendment 4 (some .int) [(0, 9, 12, 13), (0, 9, 15, 26)] 9 1 6 [.ref (ts_ad g 154), ts_v p2, .ref (ts_ad g 175)] M (ts_Ri Q) := by
  intro h0
  refine ts_ConW.of hl (by decide) (Nat.le_of_ble_eq_true rfl) ?_
  intro p e s m args below meth c hT C
  revert h0
  unfold wL_moveAmendment
  have hl0 : lv_args 0 [.ref (ts_ad g 154), ts_v p2, .ref (ts_ad g 175)] = [(0, .ref (ts_ad g 154)), (1, ts_v p2), (2, .ref (ts_ad g 175))] := rfl
  rw [hl0]
  refine ts_aload_n C dL_moveAmendment_0 rfl 2 rfl ?_
  refine ts_iconst C dL_moveAmendment_1 0 rfl ?_
  refine ts_aload_n C dL_moveAmendment_2 rfl 0 rfl ?_
  refine ts_iload_n C dL_moveAmendment_3 rfl 1 rfl ?_
  refine ts_catchVi C hT [ts_v p2] (mX11_moveAmendment hl) kX11_moveAmendment q_1417 (by decide) shX11 rfl rfl rfl (Nat.le_of_ble_eq_true rfl) ⟨Nat.le_of_ble_eq_true rfl, Nat.le_of_ble_eq_true rfl⟩ ⟨Nat.le_of_ble_eq_true rfl, Nat.le_of_ble_eq_true rfl⟩ dL_moveAmendment_4 ?_ (fun r2 M1 => ?_)
  · rintro E M3 (⟨rfl, h⟩ | ⟨rfl, h⟩)
    · refine ⟨12, ⟨[], [(0, 9, 15, 26)], 0, 9, 13, rfl, by decide, by decide, by decide, q_1089, qc_IllegalArgumentException, fun _ h => absurd h List.not_mem_nil⟩, fun q4 => ?_⟩
      revert h
      refine ts_astore_n C dL_moveAmendment_12 rfl (by decide) (lv' := [(3, .ref q4), (0, .ref (ts_ad g 154)), (1, ts_v p2), (2, .ref (ts_ad g 175))]) rfl ?_
      refine ts_iconst C dL_moveAmendment_13 1 rfl ?_
      exact ts_ireti C (Nat.le_of_ble_eq_true rfl) (Nat.le_of_ble_eq_true rfl) dL_moveAmendment_14
    · refine ⟨15, ⟨[(0, 9, 12, 13)], [], 0, 9, 26, rfl, by decide, by decide, by decide, q_1407, qc_UnsupportedOperationException, List.forall_mem_cons.mpr ⟨⟨by decide, "java/lang/IllegalArgumentException", q_1089, by decide⟩, fun _ h => absurd h List.not_mem_nil⟩⟩, fun q4 => ?_⟩
      revert h
      refine ts_astore_n C dL_moveAmendment_15 rfl (by decide) (lv' := [(3, .ref q4), (0, .ref (ts_ad g 154)), (1, ts_v p2), (2, .ref (ts_ad g 175))]) rfl ?_
      refine ts_iconst C dL_moveAmendment_16 2 rfl ?_
      exact ts_ireti C (Nat.le_of_ble_eq_true rfl) (Nat.le_of_ble_eq_true rfl) dL_moveAmendment_17
  refine ts_i2l C dL_moveAmendment_7 ?_
  refine ts_lastc C (by decide) shG175 tw_0 (by decide) dL_moveAmendment_8 (fun M5 => ?_)
  refine ts_goto C 18 dL_moveAmendment_9 rfl ?_
  refine ts_iconst C dL_moveAmendment_18 0 rfl ?_
  exact ts_ireti C (Nat.le_of_ble_eq_true rfl) (Nat.le_of_ble_eq_true rfl) dL_moveAmendment_19
def wL_movePostponement (Q : Int → ts_M → Prop) (M : ts_M) : Prop :=
  (wX11_movePostponement  (fun r2 M1 => (∀ M5, M5 = ts_sl M1 175 0 (ts_L r2) → Q 0 M5)) (fun E M3 => (E = "java/lang/UnsupportedOperationException" ∧ Q 1 M3)) M)
set_option maxRecDepth 100000 in
set_option maxHeartbeats 4000000 in
theorem mL_movePostponement {l : Launch} {g : ts_W} (hl : l.stackTraces = false) {Q : Int → ts_M → Prop} {M : ts_M} : wL_movePostponement Q M → ts_ConW l g yL_movePostponement cL_movePostponement 3 (some .int) [(0, 8, 11, 26)] 9 1 6 [.ref (ts_ad g 154), .ref (ts_ad g 175)] M (ts_Ri Q) := by
  intro h0
  refine ts_ConW.of hl (by decide) (Nat.le_of_ble_eq_true rfl) ?_
  intro p e s m args below meth c hT C
  revert h0
  unfold wL_movePostponement
  have hl0 : lv_args 0 [.ref (ts_ad g 154), .ref (ts_ad g 175)] = [(0, .ref (ts_ad g 154)), (1, .ref (ts_ad g 175))] := rfl
  rw [hl0]
  refine ts_aload_n C dL_movePostponement_0 rfl 1 rfl ?_
  refine ts_iconst C dL_movePostponement_1 0 rfl ?_
  refine ts_aload_n C dL_movePostponement_2 rfl 0 rfl ?_
  refine ts_catchVi C hT [] (mX11_movePostponement hl) kX11_movePostponement q_1426 (by decide) shX11 rfl rfl rfl (Nat.le_of_ble_eq_true rfl) ⟨Nat.le_of_ble_eq_true rfl, Nat.le_of_ble_eq_true rfl⟩ ⟨Nat.le_of_ble_eq_true rfl, Nat.le_of_ble_eq_true rfl⟩ dL_movePostponement_3 ?_ (fun r2 M1 => ?_)
  · rintro E M3 ⟨rfl, h⟩
    refine ⟨11, ⟨[], [], 0, 8, 26, rfl, by decide, by decide, by decide, q_1407, qc_UnsupportedOperationException, fun _ h => absurd h List.not_mem_nil⟩, fun q4 => ?_⟩
    revert h
    refine ts_astore_n C dL_movePostponement_11 rfl (by decide) (lv' := [(2, .ref q4), (0, .ref (ts_ad g 154)), (1, .ref (ts_ad g 175))]) rfl ?_
    refine ts_iconst C dL_movePostponement_12 1 rfl ?_
    exact ts_ireti C (Nat.le_of_ble_eq_true rfl) (Nat.le_of_ble_eq_true rfl) dL_movePostponement_13
  refine ts_i2l C dL_movePostponement_6 ?_
  refine ts_lastc C (by decide) shG175 tw_0 (by decide) dL_movePostponement_7 (fun M5 => ?_)
  refine ts_goto C 14 dL_movePostponement_8 rfl ?_
  refine ts_iconst C dL_movePostponement_14 0 rfl ?_
  exact ts_ireti C (Nat.le_of_ble_eq_true rfl) (Nat.le_of_ble_eq_true rfl) dL_movePostponement_15
def wL_moveClosure (Q : Int → ts_M → Prop) (M : ts_M) : Prop :=
  (wX11_moveClosure  (fun r2 M1 => (∀ M5, M5 = ts_sl M1 175 0 (ts_L r2) → Q 0 M5)) (fun E M3 => (E = "java/lang/UnsupportedOperationException" ∧ Q 1 M3)) M)
set_option maxRecDepth 100000 in
set_option maxHeartbeats 4000000 in
theorem mL_moveClosure {l : Launch} {g : ts_W} (hl : l.stackTraces = false) {Q : Int → ts_M → Prop} {M : ts_M} : wL_moveClosure Q M → ts_ConW l g yL_moveClosure cL_moveClosure 3 (some .int) [(0, 8, 11, 26)] 9 1 6 [.ref (ts_ad g 154), .ref (ts_ad g 175)] M (ts_Ri Q) := by
  intro h0
  refine ts_ConW.of hl (by decide) (Nat.le_of_ble_eq_true rfl) ?_
  intro p e s m args below meth c hT C
  revert h0
  unfold wL_moveClosure
  have hl0 : lv_args 0 [.ref (ts_ad g 154), .ref (ts_ad g 175)] = [(0, .ref (ts_ad g 154)), (1, .ref (ts_ad g 175))] := rfl
  rw [hl0]
  refine ts_aload_n C dL_moveClosure_0 rfl 1 rfl ?_
  refine ts_iconst C dL_moveClosure_1 0 rfl ?_
  refine ts_aload_n C dL_moveClosure_2 rfl 0 rfl ?_
  refine ts_catchVi C hT [] (mX11_moveClosure hl) kX11_moveClosure q_1435 (by decide) shX11 rfl rfl rfl (Nat.le_of_ble_eq_true rfl) ⟨Nat.le_of_ble_eq_true rfl, Nat.le_of_ble_eq_true rfl⟩ ⟨Nat.le_of_ble_eq_true rfl, Nat.le_of_ble_eq_true rfl⟩ dL_moveClosure_3 ?_ (fun r2 M1 => ?_)
  · rintro E M3 ⟨rfl, h⟩
    refine ⟨11, ⟨[], [], 0, 8, 26, rfl, by decide, by decide, by decide, q_1407, qc_UnsupportedOperationException, fun _ h => absurd h List.not_mem_nil⟩, fun q4 => ?_⟩
    revert h
    refine ts_astore_n C dL_moveClosure_11 rfl (by decide) (lv' := [(2, .ref q4), (0, .ref (ts_ad g 154)), (1, .ref (ts_ad g 175))]) rfl ?_
    refine ts_iconst C dL_moveClosure_12 1 rfl ?_
    exact ts_ireti C (Nat.le_of_ble_eq_true rfl) (Nat.le_of_ble_eq_true rfl) dL_moveClosure_13
  refine ts_i2l C dL_moveClosure_6 ?_
  refine ts_lastc C (by decide) shG175 tw_0 (by decide) dL_moveClosure_7 (fun M5 => ?_)
  refine ts_goto C 14 dL_moveClosure_8 rfl ?_
  refine ts_iconst C dL_moveClosure_14 0 rfl ?_
  exact ts_ireti C (Nat.le_of_ble_eq_true rfl) (Nat.le_of_ble_eq_true rfl) dL_moveClosure_15
def wL_moveAdjournment (Q : Int → ts_M → Prop) (M : ts_M) : Prop :=
  (wX11_moveAdjournment  (fun r2 M1 => (∀ M5, M5 = ts_sl M1 175 0 (ts_L r2) → Q 0 M5)) (fun E M3 => (E = "java/lang/UnsupportedOperationException" ∧ Q 1 M3)) M)
set_option maxRecDepth 100000 in
set_option maxHeartbeats 4000000 in
theorem mL_moveAdjournment {l : Launch} {g : ts_W} (hl : l.stackTraces = false) {Q : Int → ts_M → Prop} {M : ts_M} : wL_moveAdjournment Q M → ts_ConW l g yL_moveAdjournment cL_moveAdjournment 3 (some .int) [(0, 8, 11, 26)] 9 1 6 [.ref (ts_ad g 154), .ref (ts_ad g 175)] M (ts_Ri Q) := by
  intro h0
  refine ts_ConW.of hl (by decide) (Nat.le_of_ble_eq_true rfl) ?_
  intro p e s m args below meth c hT C
  revert h0
  unfold wL_moveAdjournment
  have hl0 : lv_args 0 [.ref (ts_ad g 154), .ref (ts_ad g 175)] = [(0, .ref (ts_ad g 154)), (1, .ref (ts_ad g 175))] := rfl
  rw [hl0]
  refine ts_aload_n C dL_moveAdjournment_0 rfl 1 rfl ?_
  refine ts_iconst C dL_moveAdjournment_1 0 rfl ?_
  refine ts_aload_n C dL_moveAdjournment_2 rfl 0 rfl ?_
  refine ts_catchVi C hT [] (mX11_moveAdjournment hl) kX11_moveAdjournment q_1444 (by decide) shX11 rfl rfl rfl (Nat.le_of_ble_eq_true rfl) ⟨Nat.le_of_ble_eq_true rfl, Nat.le_of_ble_eq_true rfl⟩ ⟨Nat.le_of_ble_eq_true rfl, Nat.le_of_ble_eq_true rfl⟩ dL_moveAdjournment_3 ?_ (fun r2 M1 => ?_)
  · rintro E M3 ⟨rfl, h⟩
    refine ⟨11, ⟨[], [], 0, 8, 26, rfl, by decide, by decide, by decide, q_1407, qc_UnsupportedOperationException, fun _ h => absurd h List.not_mem_nil⟩, fun q4 => ?_⟩
    revert h
    refine ts_astore_n C dL_moveAdjournment_11 rfl (by decide) (lv' := [(2, .ref q4), (0, .ref (ts_ad g 154)), (1, .ref (ts_ad g 175))]) rfl ?_
    refine ts_iconst C dL_moveAdjournment_12 1 rfl ?_
    exact ts_ireti C (Nat.le_of_ble_eq_true rfl) (Nat.le_of_ble_eq_true rfl) dL_moveAdjournment_13
  refine ts_i2l C dL_moveAdjournment_6 ?_
  refine ts_lastc C (by decide) shG175 tw_0 (by decide) dL_moveAdjournment_7 (fun M5 => ?_)
  refine ts_goto C 14 dL_moveAdjournment_8 rfl ?_
  refine ts_iconst C dL_moveAdjournment_14 0 rfl ?_
  exact ts_ireti C (Nat.le_of_ble_eq_true rfl) (Nat.le_of_ble_eq_true rfl) dL_moveAdjournment_15
def wL_speak (p2 : Int) (Q : Int → ts_M → Prop) (M : ts_M) : Prop :=
  (wX11_speak p2 (fun r2 M1 => (∀ M5, M5 = ts_sl M1 175 0 (ts_L r2) → Q 0 M5)) (fun E M3 => (E = "java/lang/IndexOutOfBoundsException" ∧ Q 1 M3) ∨ (E = "java/lang/IllegalStateException" ∧ Q 2 M3) ∨ (E = "java/lang/UnsupportedOperationException" ∧ Q 3 M3)) M)
set_option maxRecDepth 100000 in
set_option maxHeartbeats 4000000 in
theorem mL_speak {l : Launch} {g : ts_W} (hl : l.stackTraces = false) {p2 : Int} {Q : Int → ts_M → Prop} {M : ts_M} : wL_speak p2 Q M → ts_ConW l g yL_speak cL_speak 4 (some .int) [(0, 9, 12, 44), (0, 9, 15, 15), (0, 9, 18, 26)] 9 1 6 [.ref (ts_ad g 154), ts_v p2, .ref (ts_ad g 175)] M (ts_Ri Q) := by
  intro h0
  refine ts_ConW.of hl (by decide) (Nat.le_of_ble_eq_true rfl) ?_
  intro p e s m args below meth c hT C
  revert h0
  unfold wL_speak
  have hl0 : lv_args 0 [.ref (ts_ad g 154), ts_v p2, .ref (ts_ad g 175)] = [(0, .ref (ts_ad g 154)), (1, ts_v p2), (2, .ref (ts_ad g 175))] := rfl
  rw [hl0]
  refine ts_aload_n C dL_speak_0 rfl 2 rfl ?_
  refine ts_iconst C dL_speak_1 0 rfl ?_
  refine ts_aload_n C dL_speak_2 rfl 0 rfl ?_
  refine ts_iload_n C dL_speak_3 rfl 1 rfl ?_
  refine ts_catchVi C hT [ts_v p2] (mX11_speak hl) kX11_speak q_1456 (by decide) shX11 rfl rfl rfl (Nat.le_of_ble_eq_true rfl) ⟨Nat.le_of_ble_eq_true rfl, Nat.le_of_ble_eq_true rfl⟩ ⟨Nat.le_of_ble_eq_true rfl, Nat.le_of_ble_eq_true rfl⟩ dL_speak_4 ?_ (fun r2 M1 => ?_)
  · rintro E M3 (⟨rfl, h⟩ | ⟨rfl, h⟩ | ⟨rfl, h⟩)
    · refine ⟨12, ⟨[], [(0, 9, 15, 15), (0, 9, 18, 26)], 0, 9, 44, rfl, by decide, by decide, by decide, q_1453, qc_IndexOutOfBoundsException, fun _ h => absurd h List.not_mem_nil⟩, fun q4 => ?_⟩
      revert h
      refine ts_astore_n C dL_speak_12 rfl (by decide) (lv' := [(3, .ref q4), (0, .ref (ts_ad g 154)), (1, ts_v p2), (2, .ref (ts_ad g 175))]) rfl ?_
      refine ts_iconst C dL_speak_13 1 rfl ?_
      exact ts_ireti C (Nat.le_of_ble_eq_true rfl) (Nat.le_of_ble_eq_true rfl) dL_speak_14
    · refine ⟨15, ⟨[(0, 9, 12, 44)], [(0, 9, 18, 26)], 0, 9, 15, rfl, by decide, by decide, by decide, q_1090, qc_IllegalStateException, List.forall_mem_cons.mpr ⟨⟨by decide, "java/lang/IndexOutOfBoundsException", q_1453, by decide⟩, fun _ h => absurd h List.not_mem_nil⟩⟩, fun q4 => ?_⟩
      revert h
      refine ts_astore_n C dL_speak_15 rfl (by decide) (lv' := [(3, .ref q4), (0, .ref (ts_ad g 154)), (1, ts_v p2), (2, .ref (ts_ad g 175))]) rfl ?_
      refine ts_iconst C dL_speak_16 2 rfl ?_
      exact ts_ireti C (Nat.le_of_ble_eq_true rfl) (Nat.le_of_ble_eq_true rfl) dL_speak_17
    · refine ⟨18, ⟨[(0, 9, 12, 44), (0, 9, 15, 15)], [], 0, 9, 26, rfl, by decide, by decide, by decide, q_1407, qc_UnsupportedOperationException, List.forall_mem_cons.mpr ⟨⟨by decide, "java/lang/IndexOutOfBoundsException", q_1453, by decide⟩, List.forall_mem_cons.mpr ⟨⟨by decide, "java/lang/IllegalStateException", q_1090, by decide⟩, fun _ h => absurd h List.not_mem_nil⟩⟩⟩, fun q4 => ?_⟩
      revert h
      refine ts_astore_n C dL_speak_18 rfl (by decide) (lv' := [(3, .ref q4), (0, .ref (ts_ad g 154)), (1, ts_v p2), (2, .ref (ts_ad g 175))]) rfl ?_
      refine ts_iconst C dL_speak_19 3 rfl ?_
      exact ts_ireti C (Nat.le_of_ble_eq_true rfl) (Nat.le_of_ble_eq_true rfl) dL_speak_20
  refine ts_i2l C dL_speak_7 ?_
  refine ts_lastc C (by decide) shG175 tw_0 (by decide) dL_speak_8 (fun M5 => ?_)
  refine ts_goto C 21 dL_speak_9 rfl ?_
  refine ts_iconst C dL_speak_21 0 rfl ?_
  exact ts_ireti C (Nat.le_of_ble_eq_true rfl) (Nat.le_of_ble_eq_true rfl) dL_speak_22
def wL_vote_B14   (Q : Int → ts_M → Prop)  (z0 : Int64) (z1 : Int) (M : ts_M) : Prop :=
  ((0 ≤ ts_w z1 ∧ ts_w z1 < ((1 : Nat) : Int)) ∧ ∀ M5, M5 = ts_sl M 175 (ts_w z1) z0 → Q 0 M5)
def wL_vote (Q : Int → ts_M → Prop) (M : ts_M) : Prop :=
  (wX11_vote  (fun r2 M1 => ((ts_w r2 = 0 → wL_vote_B14 Q 0 0 M1) ∧ (¬ (ts_w r2 = 0) → wL_vote_B14 Q 1 0 M1))) (fun E M3 => (E = "java/util/NoSuchElementException" ∧ Q 1 M3)) M)
set_option maxRecDepth 100000 in
set_option maxHeartbeats 4000000 in
theorem mL_vote {l : Launch} {g : ts_W} (hl : l.stackTraces = false) {Q : Int → ts_M → Prop} {M : ts_M} : wL_vote Q M → ts_ConW l g yL_vote cL_vote 3 (some .int) [(0, 15, 18, 24)] 9 1 6 [.ref (ts_ad g 154), .ref (ts_ad g 175)] M (ts_Ri Q) := by
  intro h0
  refine ts_ConW.of hl (by decide) (Nat.le_of_ble_eq_true rfl) ?_
  intro p e s m args below meth c hT C
  have H14 : ∀ (z0 : Int64) (z1 : Int) (M : ts_M), wL_vote_B14   Q z0 z1 M → ts_V p l e (ts_rm 9 1 6) s m args below meth c g 3 1 6 (MQ below (ts_Q g (ts_Ri Q)) args s 1 6 (ts_A g)) 14 [] [.long z0, ts_v z1, .ref (ts_ad g 175)] M := by
    intro  z0 z1 M
    unfold wL_vote_B14
    refine ts_last C (by decide) shG175 dL_vote_14 (fun M5 => ?_)
    refine ts_goto C 21 dL_vote_15 rfl ?_
    refine ts_iconst C dL_vote_21 0 rfl ?_
    exact ts_ireti C (Nat.le_of_ble_eq_true rfl) (Nat.le_of_ble_eq_true rfl) dL_vote_22
  revert h0
  unfold wL_vote
  have hl0 : lv_args 0 [.ref (ts_ad g 154), .ref (ts_ad g 175)] = [(0, .ref (ts_ad g 154)), (1, .ref (ts_ad g 175))] := rfl
  rw [hl0]
  refine ts_aload_n C dL_vote_0 rfl 1 rfl ?_
  refine ts_iconst C dL_vote_1 0 rfl ?_
  refine ts_aload_n C dL_vote_2 rfl 0 rfl ?_
  refine ts_catchVi C hT [] (mX11_vote hl) kX11_vote q_1465 (by decide) shX11 rfl rfl rfl (Nat.le_of_ble_eq_true rfl) ⟨Nat.le_of_ble_eq_true rfl, Nat.le_of_ble_eq_true rfl⟩ ⟨Nat.le_of_ble_eq_true rfl, Nat.le_of_ble_eq_true rfl⟩ dL_vote_3 ?_ (fun r2 M1 => ?_)
  · rintro E M3 ⟨rfl, h⟩
    refine ⟨18, ⟨[], [], 0, 15, 24, rfl, by decide, by decide, by decide, q_1406, qc_NoSuchElementException, fun _ h => absurd h List.not_mem_nil⟩, fun q4 => ?_⟩
    revert h
    refine ts_astore_n C dL_vote_18 rfl (by decide) (lv' := [(2, .ref q4), (0, .ref (ts_ad g 154)), (1, .ref (ts_ad g 175))]) rfl ?_
    refine ts_iconst C dL_vote_19 1 rfl ?_
    exact ts_ireti C (Nat.le_of_ble_eq_true rfl) (Nat.le_of_ble_eq_true rfl) dL_vote_20
  refine ts_cm0_eq C rfl 13 dL_vote_6 rfl ?_ ?_
  · refine ts_lconst C dL_vote_13 0 rfl ?_
    exact ts_sub [] rfl (H14 _ _ _)
  · refine ts_lconst C dL_vote_9 1 rfl ?_
    refine ts_goto C 14 dL_vote_10 rfl ?_
    exact ts_sub [] rfl (H14 _ _ _)
def wL_spill (p2 : Int) (p3 : Int) (p4 : Int) (Q : Int → ts_M → Prop) (M : ts_M) : Prop :=
  (wX11_spill p2 p3 p4 (fun r2 M1 => (∀ M5, M5 = ts_sl M1 175 0 (ts_L r2) → Q 0 M5)) (fun E M3 => (E = "java/lang/IndexOutOfBoundsException" ∧ Q 1 M3) ∨ (E = "java/lang/IllegalArgumentException" ∧ Q 2 M3)) M)
set_option maxRecDepth 100000 in
set_option maxHeartbeats 4000000 in
theorem mL_spill {l : Launch} {g : ts_W} (hl : l.stackTraces = false) {p2 : Int} {p3 : Int} {p4 : Int} {Q : Int → ts_M → Prop} {M : ts_M} : wL_spill p2 p3 p4 Q M → ts_ConW l g yL_spill cL_spill 6 (some .int) [(0, 12, 15, 44), (0, 12, 19, 13)] 9 1 6 [.ref (ts_ad g 154), ts_v p2, ts_v p3, ts_v p4, .ref (ts_ad g 175)] M (ts_Ri Q) := by
  intro h0
  refine ts_ConW.of hl (by decide) (Nat.le_of_ble_eq_true rfl) ?_
  intro p e s m args below meth c hT C
  revert h0
  unfold wL_spill
  have hl0 : lv_args 0 [.ref (ts_ad g 154), ts_v p2, ts_v p3, ts_v p4, .ref (ts_ad g 175)] = [(0, .ref (ts_ad g 154)), (1, ts_v p2), (2, ts_v p3), (3, ts_v p4), (4, .ref (ts_ad g 175))] := rfl
  rw [hl0]
  refine ts_aload C dL_spill_0 4 rfl ?_
  refine ts_iconst C dL_spill_2 0 rfl ?_
  refine ts_aload_n C dL_spill_3 rfl 0 rfl ?_
  refine ts_iload_n C dL_spill_4 rfl 1 rfl ?_
  refine ts_iload_n C dL_spill_5 rfl 2 rfl ?_
  refine ts_iload_n C dL_spill_6 rfl 3 rfl ?_
  refine ts_catchVi C hT [ts_v p2, ts_v p3, ts_v p4] (mX11_spill hl) kX11_spill q_1474 (by decide) shX11 rfl rfl rfl (Nat.le_of_ble_eq_true rfl) ⟨Nat.le_of_ble_eq_true rfl, Nat.le_of_ble_eq_true rfl⟩ ⟨Nat.le_of_ble_eq_true rfl, Nat.le_of_ble_eq_true rfl⟩ dL_spill_7 ?_ (fun r2 M1 => ?_)
  · rintro E M3 (⟨rfl, h⟩ | ⟨rfl, h⟩)
    · refine ⟨15, ⟨[], [(0, 12, 19, 13)], 0, 12, 44, rfl, by decide, by decide, by decide, q_1453, qc_IndexOutOfBoundsException, fun _ h => absurd h List.not_mem_nil⟩, fun q4 => ?_⟩
      revert h
      refine ts_astore C dL_spill_15 (by decide) (lv' := [(5, .ref q4), (0, .ref (ts_ad g 154)), (1, ts_v p2), (2, ts_v p3), (3, ts_v p4), (4, .ref (ts_ad g 175))]) rfl ?_
      refine ts_iconst C dL_spill_17 1 rfl ?_
      exact ts_ireti C (Nat.le_of_ble_eq_true rfl) (Nat.le_of_ble_eq_true rfl) dL_spill_18
    · refine ⟨19, ⟨[(0, 12, 15, 44)], [], 0, 12, 13, rfl, by decide, by decide, by decide, q_1089, qc_IllegalArgumentException, List.forall_mem_cons.mpr ⟨⟨by decide, "java/lang/IndexOutOfBoundsException", q_1453, by decide⟩, fun _ h => absurd h List.not_mem_nil⟩⟩, fun q4 => ?_⟩
      revert h
      refine ts_astore C dL_spill_19 (by decide) (lv' := [(5, .ref q4), (0, .ref (ts_ad g 154)), (1, ts_v p2), (2, ts_v p3), (3, ts_v p4), (4, .ref (ts_ad g 175))]) rfl ?_
      refine ts_iconst C dL_spill_21 2 rfl ?_
      exact ts_ireti C (Nat.le_of_ble_eq_true rfl) (Nat.le_of_ble_eq_true rfl) dL_spill_22
  refine ts_i2l C dL_spill_10 ?_
  refine ts_lastc C (by decide) shG175 tw_0 (by decide) dL_spill_11 (fun M5 => ?_)
  refine ts_goto C 23 dL_spill_12 rfl ?_
  refine ts_iconst C dL_spill_23 0 rfl ?_
  exact ts_ireti C (Nat.le_of_ble_eq_true rfl) (Nat.le_of_ble_eq_true rfl) dL_spill_24
def wL_mop (p2 : Int) (p3 : Int) (Q : Int → ts_M → Prop) (M : ts_M) : Prop :=
  (wX11_mop p2 p3 (fun r2 M1 => (∀ M5, M5 = ts_sl M1 175 0 (ts_L r2) → Q 0 M5)) (fun E M3 => (E = "java/lang/IndexOutOfBoundsException" ∧ Q 1 M3) ∨ (E = "java/lang/IllegalStateException" ∧ Q 2 M3)) M)
set_option maxRecDepth 100000 in
set_option maxHeartbeats 4000000 in
theorem mL_mop {l : Launch} {g : ts_W} (hl : l.stackTraces = false) {p2 : Int} {p3 : Int} {Q : Int → ts_M → Prop} {M : ts_M} : wL_mop p2 p3 Q M → ts_ConW l g yL_mop cL_mop 5 (some .int) [(0, 10, 13, 44), (0, 10, 17, 15)] 9 1 6 [.ref (ts_ad g 154), ts_v p2, ts_v p3, .ref (ts_ad g 175)] M (ts_Ri Q) := by
  intro h0
  refine ts_ConW.of hl (by decide) (Nat.le_of_ble_eq_true rfl) ?_
  intro p e s m args below meth c hT C
  revert h0
  unfold wL_mop
  have hl0 : lv_args 0 [.ref (ts_ad g 154), ts_v p2, ts_v p3, .ref (ts_ad g 175)] = [(0, .ref (ts_ad g 154)), (1, ts_v p2), (2, ts_v p3), (3, .ref (ts_ad g 175))] := rfl
  rw [hl0]
  refine ts_aload_n C dL_mop_0 rfl 3 rfl ?_
  refine ts_iconst C dL_mop_1 0 rfl ?_
  refine ts_aload_n C dL_mop_2 rfl 0 rfl ?_
  refine ts_iload_n C dL_mop_3 rfl 1 rfl ?_
  refine ts_iload_n C dL_mop_4 rfl 2 rfl ?_
  refine ts_catchVi C hT [ts_v p2, ts_v p3] (mX11_mop hl) kX11_mop q_1483 (by decide) shX11 rfl rfl rfl (Nat.le_of_ble_eq_true rfl) ⟨Nat.le_of_ble_eq_true rfl, Nat.le_of_ble_eq_true rfl⟩ ⟨Nat.le_of_ble_eq_true rfl, Nat.le_of_ble_eq_true rfl⟩ dL_mop_5 ?_ (fun r2 M1 => ?_)
  · rintro E M3 (⟨rfl, h⟩ | ⟨rfl, h⟩)
    · refine ⟨13, ⟨[], [(0, 10, 17, 15)], 0, 10, 44, rfl, by decide, by decide, by decide, q_1453, qc_IndexOutOfBoundsException, fun _ h => absurd h List.not_mem_nil⟩, fun q4 => ?_⟩
      revert h
      refine ts_astore C dL_mop_13 (by decide) (lv' := [(4, .ref q4), (0, .ref (ts_ad g 154)), (1, ts_v p2), (2, ts_v p3), (3, .ref (ts_ad g 175))]) rfl ?_
      refine ts_iconst C dL_mop_15 1 rfl ?_
      exact ts_ireti C (Nat.le_of_ble_eq_true rfl) (Nat.le_of_ble_eq_true rfl) dL_mop_16
    · refine ⟨17, ⟨[(0, 10, 13, 44)], [], 0, 10, 15, rfl, by decide, by decide, by decide, q_1090, qc_IllegalStateException, List.forall_mem_cons.mpr ⟨⟨by decide, "java/lang/IndexOutOfBoundsException", q_1453, by decide⟩, fun _ h => absurd h List.not_mem_nil⟩⟩, fun q4 => ?_⟩
      revert h
      refine ts_astore C dL_mop_17 (by decide) (lv' := [(4, .ref q4), (0, .ref (ts_ad g 154)), (1, ts_v p2), (2, ts_v p3), (3, .ref (ts_ad g 175))]) rfl ?_
      refine ts_iconst C dL_mop_19 2 rfl ?_
      exact ts_ireti C (Nat.le_of_ble_eq_true rfl) (Nat.le_of_ble_eq_true rfl) dL_mop_20
  refine ts_i2l C dL_mop_8 ?_
  refine ts_lastc C (by decide) shG175 tw_0 (by decide) dL_mop_9 (fun M5 => ?_)
  refine ts_goto C 21 dL_mop_10 rfl ?_
  refine ts_iconst C dL_mop_21 0 rfl ?_
  exact ts_ireti C (Nat.le_of_ble_eq_true rfl) (Nat.le_of_ble_eq_true rfl) dL_mop_22
def wL_giveSugar (p2 : Int) (p3 : Int) (Q : Int → ts_M → Prop) (M : ts_M) : Prop :=
  (wX11_giveSugar p2 p3 (fun r2 M1 => (∀ M5, M5 = ts_sl M1 175 0 (ts_L r2) → Q 0 M5)) (fun E M3 => (E = "java/lang/IndexOutOfBoundsException" ∧ Q 1 M3) ∨ (E = "java/lang/IllegalArgumentException" ∧ Q 2 M3)) M)
set_option maxRecDepth 100000 in
set_option maxHeartbeats 4000000 in
theorem mL_giveSugar {l : Launch} {g : ts_W} (hl : l.stackTraces = false) {p2 : Int} {p3 : Int} {Q : Int → ts_M → Prop} {M : ts_M} : wL_giveSugar p2 p3 Q M → ts_ConW l g yL_giveSugar cL_giveSugar 5 (some .int) [(0, 10, 13, 44), (0, 10, 17, 13)] 9 1 6 [.ref (ts_ad g 154), ts_v p2, ts_v p3, .ref (ts_ad g 175)] M (ts_Ri Q) := by
  intro h0
  refine ts_ConW.of hl (by decide) (Nat.le_of_ble_eq_true rfl) ?_
  intro p e s m args below meth c hT C
  revert h0
  unfold wL_giveSugar
  have hl0 : lv_args 0 [.ref (ts_ad g 154), ts_v p2, ts_v p3, .ref (ts_ad g 175)] = [(0, .ref (ts_ad g 154)), (1, ts_v p2), (2, ts_v p3), (3, .ref (ts_ad g 175))] := rfl
  rw [hl0]
  refine ts_aload_n C dL_giveSugar_0 rfl 3 rfl ?_
  refine ts_iconst C dL_giveSugar_1 0 rfl ?_
  refine ts_aload_n C dL_giveSugar_2 rfl 0 rfl ?_
  refine ts_iload_n C dL_giveSugar_3 rfl 1 rfl ?_
  refine ts_iload_n C dL_giveSugar_4 rfl 2 rfl ?_
  refine ts_catchVi C hT [ts_v p2, ts_v p3] (mX11_giveSugar hl) kX11_giveSugar q_1492 (by decide) shX11 rfl rfl rfl (Nat.le_of_ble_eq_true rfl) ⟨Nat.le_of_ble_eq_true rfl, Nat.le_of_ble_eq_true rfl⟩ ⟨Nat.le_of_ble_eq_true rfl, Nat.le_of_ble_eq_true rfl⟩ dL_giveSugar_5 ?_ (fun r2 M1 => ?_)
  · rintro E M3 (⟨rfl, h⟩ | ⟨rfl, h⟩)
    · refine ⟨13, ⟨[], [(0, 10, 17, 13)], 0, 10, 44, rfl, by decide, by decide, by decide, q_1453, qc_IndexOutOfBoundsException, fun _ h => absurd h List.not_mem_nil⟩, fun q4 => ?_⟩
      revert h
      refine ts_astore C dL_giveSugar_13 (by decide) (lv' := [(4, .ref q4), (0, .ref (ts_ad g 154)), (1, ts_v p2), (2, ts_v p3), (3, .ref (ts_ad g 175))]) rfl ?_
      refine ts_iconst C dL_giveSugar_15 1 rfl ?_
      exact ts_ireti C (Nat.le_of_ble_eq_true rfl) (Nat.le_of_ble_eq_true rfl) dL_giveSugar_16
    · refine ⟨17, ⟨[(0, 10, 13, 44)], [], 0, 10, 13, rfl, by decide, by decide, by decide, q_1089, qc_IllegalArgumentException, List.forall_mem_cons.mpr ⟨⟨by decide, "java/lang/IndexOutOfBoundsException", q_1453, by decide⟩, fun _ h => absurd h List.not_mem_nil⟩⟩, fun q4 => ?_⟩
      revert h
      refine ts_astore C dL_giveSugar_17 (by decide) (lv' := [(4, .ref q4), (0, .ref (ts_ad g 154)), (1, ts_v p2), (2, ts_v p3), (3, .ref (ts_ad g 175))]) rfl ?_
      refine ts_iconst C dL_giveSugar_19 2 rfl ?_
      exact ts_ireti C (Nat.le_of_ble_eq_true rfl) (Nat.le_of_ble_eq_true rfl) dL_giveSugar_20
  refine ts_i2l C dL_giveSugar_8 ?_
  refine ts_lastc C (by decide) shG175 tw_0 (by decide) dL_giveSugar_9 (fun M5 => ?_)
  refine ts_goto C 21 dL_giveSugar_10 rfl ?_
  refine ts_iconst C dL_giveSugar_21 0 rfl ?_
  exact ts_ireti C (Nat.le_of_ble_eq_true rfl) (Nat.le_of_ble_eq_true rfl) dL_giveSugar_22
def wL_weight (p2 : Int) (Q : Int → ts_M → Prop) (M : ts_M) : Prop :=
  (wX11_weight p2 (fun r2 M1 => (∀ M5, M5 = ts_sl M1 175 0 (ts_L r2) → Q 0 M5)) (fun E M3 => (E = "java/lang/IndexOutOfBoundsException" ∧ Q 1 M3)) M)
set_option maxRecDepth 100000 in
set_option maxHeartbeats 4000000 in
theorem mL_weight {l : Launch} {g : ts_W} (hl : l.stackTraces = false) {p2 : Int} {Q : Int → ts_M → Prop} {M : ts_M} : wL_weight p2 Q M → ts_ConW l g yL_weight cL_weight 4 (some .int) [(0, 9, 12, 44)] 8 1 6 [.ref (ts_ad g 154), ts_v p2, .ref (ts_ad g 175)] M (ts_Ri Q) := by
  intro h0
  refine ts_ConW.of hl (by decide) (Nat.le_of_ble_eq_true rfl) ?_
  intro p e s m args below meth c hT C
  revert h0
  unfold wL_weight
  have hl0 : lv_args 0 [.ref (ts_ad g 154), ts_v p2, .ref (ts_ad g 175)] = [(0, .ref (ts_ad g 154)), (1, ts_v p2), (2, .ref (ts_ad g 175))] := rfl
  rw [hl0]
  refine ts_aload_n C dL_weight_0 rfl 2 rfl ?_
  refine ts_iconst C dL_weight_1 0 rfl ?_
  refine ts_aload_n C dL_weight_2 rfl 0 rfl ?_
  refine ts_iload_n C dL_weight_3 rfl 1 rfl ?_
  refine ts_catchVi C hT [ts_v p2] (mX11_weight hl) kX11_weight q_1501 (by decide) shX11 rfl rfl rfl (Nat.le_of_ble_eq_true rfl) ⟨Nat.le_of_ble_eq_true rfl, Nat.le_of_ble_eq_true rfl⟩ ⟨Nat.le_of_ble_eq_true rfl, Nat.le_of_ble_eq_true rfl⟩ dL_weight_4 ?_ (fun r2 M1 => ?_)
  · rintro E M3 ⟨rfl, h⟩
    refine ⟨12, ⟨[], [], 0, 9, 44, rfl, by decide, by decide, by decide, q_1453, qc_IndexOutOfBoundsException, fun _ h => absurd h List.not_mem_nil⟩, fun q4 => ?_⟩
    revert h
    refine ts_astore_n C dL_weight_12 rfl (by decide) (lv' := [(3, .ref q4), (0, .ref (ts_ad g 154)), (1, ts_v p2), (2, .ref (ts_ad g 175))]) rfl ?_
    refine ts_iconst C dL_weight_13 1 rfl ?_
    exact ts_ireti C (Nat.le_of_ble_eq_true rfl) (Nat.le_of_ble_eq_true rfl) dL_weight_14
  refine ts_i2l C dL_weight_7 ?_
  refine ts_lastc C (by decide) shG175 tw_0 (by decide) dL_weight_8 (fun M5 => ?_)
  refine ts_goto C 15 dL_weight_9 rfl ?_
  refine ts_iconst C dL_weight_15 0 rfl ?_
  exact ts_ireti C (Nat.le_of_ble_eq_true rfl) (Nat.le_of_ble_eq_true rfl) dL_weight_16
def wL_stance (p2 : Int) (Q : Int → ts_M → Prop) (M : ts_M) : Prop :=
  (wX11_stance p2 (fun r2 M1 => (∀ M5, M5 = ts_sl M1 175 0 (ts_L r2) → Q 0 M5)) (fun E M3 => (E = "java/lang/IndexOutOfBoundsException" ∧ Q 1 M3)) M)
set_option maxRecDepth 100000 in
set_option maxHeartbeats 4000000 in
theorem mL_stance {l : Launch} {g : ts_W} (hl : l.stackTraces = false) {p2 : Int} {Q : Int → ts_M → Prop} {M : ts_M} : wL_stance p2 Q M → ts_ConW l g yL_stance cL_stance 4 (some .int) [(0, 9, 12, 44)] 8 1 6 [.ref (ts_ad g 154), ts_v p2, .ref (ts_ad g 175)] M (ts_Ri Q) := by
  intro h0
  refine ts_ConW.of hl (by decide) (Nat.le_of_ble_eq_true rfl) ?_
  intro p e s m args below meth c hT C
  revert h0
  unfold wL_stance
  have hl0 : lv_args 0 [.ref (ts_ad g 154), ts_v p2, .ref (ts_ad g 175)] = [(0, .ref (ts_ad g 154)), (1, ts_v p2), (2, .ref (ts_ad g 175))] := rfl
  rw [hl0]
  refine ts_aload_n C dL_stance_0 rfl 2 rfl ?_
  refine ts_iconst C dL_stance_1 0 rfl ?_
  refine ts_aload_n C dL_stance_2 rfl 0 rfl ?_
  refine ts_iload_n C dL_stance_3 rfl 1 rfl ?_
  refine ts_catchVi C hT [ts_v p2] (mX11_stance hl) kX11_stance q_1514 (by decide) shX11 rfl rfl rfl (Nat.le_of_ble_eq_true rfl) ⟨Nat.le_of_ble_eq_true rfl, Nat.le_of_ble_eq_true rfl⟩ ⟨Nat.le_of_ble_eq_true rfl, Nat.le_of_ble_eq_true rfl⟩ dL_stance_4 ?_ (fun r2 M1 => ?_)
  · rintro E M3 ⟨rfl, h⟩
    refine ⟨12, ⟨[], [], 0, 9, 44, rfl, by decide, by decide, by decide, q_1453, qc_IndexOutOfBoundsException, fun _ h => absurd h List.not_mem_nil⟩, fun q4 => ?_⟩
    revert h
    refine ts_astore_n C dL_stance_12 rfl (by decide) (lv' := [(3, .ref q4), (0, .ref (ts_ad g 154)), (1, ts_v p2), (2, .ref (ts_ad g 175))]) rfl ?_
    refine ts_iconst C dL_stance_13 1 rfl ?_
    exact ts_ireti C (Nat.le_of_ble_eq_true rfl) (Nat.le_of_ble_eq_true rfl) dL_stance_14
  refine ts_i2l C dL_stance_7 ?_
  refine ts_lastc C (by decide) shG175 tw_0 (by decide) dL_stance_8 (fun M5 => ?_)
  refine ts_goto C 15 dL_stance_9 rfl ?_
  refine ts_iconst C dL_stance_15 0 rfl ?_
  exact ts_ireti C (Nat.le_of_ble_eq_true rfl) (Nat.le_of_ble_eq_true rfl) dL_stance_16
def wL_sugar (p2 : Int) (Q : Int → ts_M → Prop) (M : ts_M) : Prop :=
  (wX11_sugar p2 (fun r2 M1 => (∀ M5, M5 = ts_sl M1 175 0 (ts_L r2) → Q 0 M5)) (fun E M3 => (E = "java/lang/IndexOutOfBoundsException" ∧ Q 1 M3)) M)
set_option maxRecDepth 100000 in
set_option maxHeartbeats 4000000 in
theorem mL_sugar {l : Launch} {g : ts_W} (hl : l.stackTraces = false) {p2 : Int} {Q : Int → ts_M → Prop} {M : ts_M} : wL_sugar p2 Q M → ts_ConW l g yL_sugar cL_sugar 4 (some .int) [(0, 9, 12, 44)] 8 1 6 [.ref (ts_ad g 154), ts_v p2, .ref (ts_ad g 175)] M (ts_Ri Q) := by
  intro h0
  refine ts_ConW.of hl (by decide) (Nat.le_of_ble_eq_true rfl) ?_
  intro p e s m args below meth c hT C
  revert h0
  unfold wL_sugar
  have hl0 : lv_args 0 [.ref (ts_ad g 154), ts_v p2, .ref (ts_ad g 175)] = [(0, .ref (ts_ad g 154)), (1, ts_v p2), (2, .ref (ts_ad g 175))] := rfl
  rw [hl0]
  refine ts_aload_n C dL_sugar_0 rfl 2 rfl ?_
  refine ts_iconst C dL_sugar_1 0 rfl ?_
  refine ts_aload_n C dL_sugar_2 rfl 0 rfl ?_
  refine ts_iload_n C dL_sugar_3 rfl 1 rfl ?_
  refine ts_catchVi C hT [ts_v p2] (mX11_sugar hl) kX11_sugar q_1521 (by decide) shX11 rfl rfl rfl (Nat.le_of_ble_eq_true rfl) ⟨Nat.le_of_ble_eq_true rfl, Nat.le_of_ble_eq_true rfl⟩ ⟨Nat.le_of_ble_eq_true rfl, Nat.le_of_ble_eq_true rfl⟩ dL_sugar_4 ?_ (fun r2 M1 => ?_)
  · rintro E M3 ⟨rfl, h⟩
    refine ⟨12, ⟨[], [], 0, 9, 44, rfl, by decide, by decide, by decide, q_1453, qc_IndexOutOfBoundsException, fun _ h => absurd h List.not_mem_nil⟩, fun q4 => ?_⟩
    revert h
    refine ts_astore_n C dL_sugar_12 rfl (by decide) (lv' := [(3, .ref q4), (0, .ref (ts_ad g 154)), (1, ts_v p2), (2, .ref (ts_ad g 175))]) rfl ?_
    refine ts_iconst C dL_sugar_13 1 rfl ?_
    exact ts_ireti C (Nat.le_of_ble_eq_true rfl) (Nat.le_of_ble_eq_true rfl) dL_sugar_14
  refine ts_i2l C dL_sugar_7 ?_
  refine ts_lastc C (by decide) shG175 tw_0 (by decide) dL_sugar_8 (fun M5 => ?_)
  refine ts_goto C 15 dL_sugar_9 rfl ?_
  refine ts_iconst C dL_sugar_15 0 rfl ?_
  exact ts_ireti C (Nat.le_of_ble_eq_true rfl) (Nat.le_of_ble_eq_true rfl) dL_sugar_16
def wL_speeches (p2 : Int) (Q : Int → ts_M → Prop) (M : ts_M) : Prop :=
  (wX11_speeches p2 (fun r2 M1 => (∀ M5, M5 = ts_sl M1 175 0 (ts_L r2) → Q 0 M5)) (fun E M3 => (E = "java/lang/IndexOutOfBoundsException" ∧ Q 1 M3)) M)
set_option maxRecDepth 100000 in
set_option maxHeartbeats 4000000 in
theorem mL_speeches {l : Launch} {g : ts_W} (hl : l.stackTraces = false) {p2 : Int} {Q : Int → ts_M → Prop} {M : ts_M} : wL_speeches p2 Q M → ts_ConW l g yL_speeches cL_speeches 4 (some .int) [(0, 9, 12, 44)] 8 1 6 [.ref (ts_ad g 154), ts_v p2, .ref (ts_ad g 175)] M (ts_Ri Q) := by
  intro h0
  refine ts_ConW.of hl (by decide) (Nat.le_of_ble_eq_true rfl) ?_
  intro p e s m args below meth c hT C
  revert h0
  unfold wL_speeches
  have hl0 : lv_args 0 [.ref (ts_ad g 154), ts_v p2, .ref (ts_ad g 175)] = [(0, .ref (ts_ad g 154)), (1, ts_v p2), (2, .ref (ts_ad g 175))] := rfl
  rw [hl0]
  refine ts_aload_n C dL_speeches_0 rfl 2 rfl ?_
  refine ts_iconst C dL_speeches_1 0 rfl ?_
  refine ts_aload_n C dL_speeches_2 rfl 0 rfl ?_
  refine ts_iload_n C dL_speeches_3 rfl 1 rfl ?_
  refine ts_catchVi C hT [ts_v p2] (mX11_speeches hl) kX11_speeches q_1528 (by decide) shX11 rfl rfl rfl (Nat.le_of_ble_eq_true rfl) ⟨Nat.le_of_ble_eq_true rfl, Nat.le_of_ble_eq_true rfl⟩ ⟨Nat.le_of_ble_eq_true rfl, Nat.le_of_ble_eq_true rfl⟩ dL_speeches_4 ?_ (fun r2 M1 => ?_)
  · rintro E M3 ⟨rfl, h⟩
    refine ⟨12, ⟨[], [], 0, 9, 44, rfl, by decide, by decide, by decide, q_1453, qc_IndexOutOfBoundsException, fun _ h => absurd h List.not_mem_nil⟩, fun q4 => ?_⟩
    revert h
    refine ts_astore_n C dL_speeches_12 rfl (by decide) (lv' := [(3, .ref q4), (0, .ref (ts_ad g 154)), (1, ts_v p2), (2, .ref (ts_ad g 175))]) rfl ?_
    refine ts_iconst C dL_speeches_13 1 rfl ?_
    exact ts_ireti C (Nat.le_of_ble_eq_true rfl) (Nat.le_of_ble_eq_true rfl) dL_speeches_14
  refine ts_i2l C dL_speeches_7 ?_
  refine ts_lastc C (by decide) shG175 tw_0 (by decide) dL_speeches_8 (fun M5 => ?_)
  refine ts_goto C 15 dL_speeches_9 rfl ?_
  refine ts_iconst C dL_speeches_15 0 rfl ?_
  exact ts_ireti C (Nat.le_of_ble_eq_true rfl) (Nat.le_of_ble_eq_true rfl) dL_speeches_16
def wL_proposalAt (p2 : Int) (Q : Int → ts_M → Prop) (M : ts_M) : Prop :=
  (wX11_proposalAt p2 (fun r2 M1 => (∀ M5, M5 = ts_sl M1 175 0 (ts_L r2) → Q 0 M5)) (fun E M3 => (E = "java/util/NoSuchElementException" ∧ Q 1 M3)) M)
set_option maxRecDepth 100000 in
set_option maxHeartbeats 4000000 in
theorem mL_proposalAt {l : Launch} {g : ts_W} (hl : l.stackTraces = false) {p2 : Int} {Q : Int → ts_M → Prop} {M : ts_M} : wL_proposalAt p2 Q M → ts_ConW l g yL_proposalAt cL_proposalAt 4 (some .int) [(0, 9, 12, 24)] 8 1 6 [.ref (ts_ad g 154), ts_v p2, .ref (ts_ad g 175)] M (ts_Ri Q) := by
  intro h0
  refine ts_ConW.of hl (by decide) (Nat.le_of_ble_eq_true rfl) ?_
  intro p e s m args below meth c hT C
  revert h0
  unfold wL_proposalAt
  have hl0 : lv_args 0 [.ref (ts_ad g 154), ts_v p2, .ref (ts_ad g 175)] = [(0, .ref (ts_ad g 154)), (1, ts_v p2), (2, .ref (ts_ad g 175))] := rfl
  rw [hl0]
  refine ts_aload_n C dL_proposalAt_0 rfl 2 rfl ?_
  refine ts_iconst C dL_proposalAt_1 0 rfl ?_
  refine ts_aload_n C dL_proposalAt_2 rfl 0 rfl ?_
  refine ts_iload_n C dL_proposalAt_3 rfl 1 rfl ?_
  refine ts_catchVi C hT [ts_v p2] (mX11_proposalAt hl) kX11_proposalAt q_1535 (by decide) shX11 rfl rfl rfl (Nat.le_of_ble_eq_true rfl) ⟨Nat.le_of_ble_eq_true rfl, Nat.le_of_ble_eq_true rfl⟩ ⟨Nat.le_of_ble_eq_true rfl, Nat.le_of_ble_eq_true rfl⟩ dL_proposalAt_4 ?_ (fun r2 M1 => ?_)
  · rintro E M3 ⟨rfl, h⟩
    refine ⟨12, ⟨[], [], 0, 9, 24, rfl, by decide, by decide, by decide, q_1406, qc_NoSuchElementException, fun _ h => absurd h List.not_mem_nil⟩, fun q4 => ?_⟩
    revert h
    refine ts_astore_n C dL_proposalAt_12 rfl (by decide) (lv' := [(3, .ref q4), (0, .ref (ts_ad g 154)), (1, ts_v p2), (2, .ref (ts_ad g 175))]) rfl ?_
    refine ts_iconst C dL_proposalAt_13 1 rfl ?_
    exact ts_ireti C (Nat.le_of_ble_eq_true rfl) (Nat.le_of_ble_eq_true rfl) dL_proposalAt_14
  refine ts_i2l C dL_proposalAt_7 ?_
  refine ts_lastc C (by decide) shG175 tw_0 (by decide) dL_proposalAt_8 (fun M5 => ?_)
  refine ts_goto C 15 dL_proposalAt_9 rfl ?_
  refine ts_iconst C dL_proposalAt_15 0 rfl ?_
  exact ts_ireti C (Nat.le_of_ble_eq_true rfl) (Nat.le_of_ble_eq_true rfl) dL_proposalAt_16
def wL_position (p2 : Int) (Q : Int → ts_M → Prop) (M : ts_M) : Prop :=
  (wX11_position p2 (fun r2 M1 => (∀ M5, M5 = ts_sl M1 175 0 (ts_L r2) → Q 0 M5)) (fun E M3 => (E = "java/util/NoSuchElementException" ∧ Q 1 M3)) M)
set_option maxRecDepth 100000 in
set_option maxHeartbeats 4000000 in
theorem mL_position {l : Launch} {g : ts_W} (hl : l.stackTraces = false) {p2 : Int} {Q : Int → ts_M → Prop} {M : ts_M} : wL_position p2 Q M → ts_ConW l g yL_position cL_position 4 (some .int) [(0, 9, 12, 24)] 8 1 6 [.ref (ts_ad g 154), ts_v p2, .ref (ts_ad g 175)] M (ts_Ri Q) := by
  intro h0
  refine ts_ConW.of hl (by decide) (Nat.le_of_ble_eq_true rfl) ?_
  intro p e s m args below meth c hT C
  revert h0
  unfold wL_position
  have hl0 : lv_args 0 [.ref (ts_ad g 154), ts_v p2, .ref (ts_ad g 175)] = [(0, .ref (ts_ad g 154)), (1, ts_v p2), (2, .ref (ts_ad g 175))] := rfl
  rw [hl0]
  refine ts_aload_n C dL_position_0 rfl 2 rfl ?_
  refine ts_iconst C dL_position_1 0 rfl ?_
  refine ts_aload_n C dL_position_2 rfl 0 rfl ?_
  refine ts_iload_n C dL_position_3 rfl 1 rfl ?_
  refine ts_catchVi C hT [ts_v p2] (mX11_position hl) kX11_position q_1547 (by decide) shX11 rfl rfl rfl (Nat.le_of_ble_eq_true rfl) ⟨Nat.le_of_ble_eq_true rfl, Nat.le_of_ble_eq_true rfl⟩ ⟨Nat.le_of_ble_eq_true rfl, Nat.le_of_ble_eq_true rfl⟩ dL_position_4 ?_ (fun r2 M1 => ?_)
  · rintro E M3 ⟨rfl, h⟩
    refine ⟨12, ⟨[], [], 0, 9, 24, rfl, by decide, by decide, by decide, q_1406, qc_NoSuchElementException, fun _ h => absurd h List.not_mem_nil⟩, fun q4 => ?_⟩
    revert h
    refine ts_astore_n C dL_position_12 rfl (by decide) (lv' := [(3, .ref q4), (0, .ref (ts_ad g 154)), (1, ts_v p2), (2, .ref (ts_ad g 175))]) rfl ?_
    refine ts_iconst C dL_position_13 1 rfl ?_
    exact ts_ireti C (Nat.le_of_ble_eq_true rfl) (Nat.le_of_ble_eq_true rfl) dL_position_14
  refine ts_i2l C dL_position_7 ?_
  refine ts_lastc C (by decide) shG175 tw_0 (by decide) dL_position_8 (fun M5 => ?_)
  refine ts_goto C 15 dL_position_9 rfl ?_
  refine ts_iconst C dL_position_15 0 rfl ?_
  exact ts_ireti C (Nat.le_of_ble_eq_true rfl) (Nat.le_of_ble_eq_true rfl) dL_position_16
def wL_motionKind (p2 : Int) (Q : Int → ts_M → Prop) (M : ts_M) : Prop :=
  (wX11_motionKind p2 (fun r2 M1 => (∀ M5, M5 = ts_sl M1 175 0 (ts_L r2) → Q 0 M5)) (fun E M3 => (E = "java/util/NoSuchElementException" ∧ Q 1 M3)) M)
set_option maxRecDepth 100000 in
set_option maxHeartbeats 4000000 in
theorem mL_motionKind {l : Launch} {g : ts_W} (hl : l.stackTraces = false) {p2 : Int} {Q : Int → ts_M → Prop} {M : ts_M} : wL_motionKind p2 Q M → ts_ConW l g yL_motionKind cL_motionKind 4 (some .int) [(0, 9, 12, 24)] 7 1 6 [.ref (ts_ad g 154), ts_v p2, .ref (ts_ad g 175)] M (ts_Ri Q) := by
  intro h0
  refine ts_ConW.of hl (by decide) (Nat.le_of_ble_eq_true rfl) ?_
  intro p e s m args below meth c hT C
  revert h0
  unfold wL_motionKind
  have hl0 : lv_args 0 [.ref (ts_ad g 154), ts_v p2, .ref (ts_ad g 175)] = [(0, .ref (ts_ad g 154)), (1, ts_v p2), (2, .ref (ts_ad g 175))] := rfl
  rw [hl0]
  refine ts_aload_n C dL_motionKind_0 rfl 2 rfl ?_
  refine ts_iconst C dL_motionKind_1 0 rfl ?_
  refine ts_aload_n C dL_motionKind_2 rfl 0 rfl ?_
  refine ts_iload_n C dL_motionKind_3 rfl 1 rfl ?_
  refine ts_catchVi C hT [ts_v p2] (mX11_motionKind hl) kX11_motionKind q_1561 (by decide) shX11 rfl rfl rfl (Nat.le_of_ble_eq_true rfl) ⟨Nat.le_of_ble_eq_true rfl, Nat.le_of_ble_eq_true rfl⟩ ⟨Nat.le_of_ble_eq_true rfl, Nat.le_of_ble_eq_true rfl⟩ dL_motionKind_4 ?_ (fun r2 M1 => ?_)
  · rintro E M3 ⟨rfl, h⟩
    refine ⟨12, ⟨[], [], 0, 9, 24, rfl, by decide, by decide, by decide, q_1406, qc_NoSuchElementException, fun _ h => absurd h List.not_mem_nil⟩, fun q4 => ?_⟩
    revert h
    refine ts_astore_n C dL_motionKind_12 rfl (by decide) (lv' := [(3, .ref q4), (0, .ref (ts_ad g 154)), (1, ts_v p2), (2, .ref (ts_ad g 175))]) rfl ?_
    refine ts_iconst C dL_motionKind_13 1 rfl ?_
    exact ts_ireti C (Nat.le_of_ble_eq_true rfl) (Nat.le_of_ble_eq_true rfl) dL_motionKind_14
  refine ts_i2l C dL_motionKind_7 ?_
  refine ts_lastc C (by decide) shG175 tw_0 (by decide) dL_motionKind_8 (fun M5 => ?_)
  refine ts_goto C 15 dL_motionKind_9 rfl ?_
  refine ts_iconst C dL_motionKind_15 0 rfl ?_
  exact ts_ireti C (Nat.le_of_ble_eq_true rfl) (Nat.le_of_ble_eq_true rfl) dL_motionKind_16
def wL_amendment (Q : Int → ts_M → Prop) (M : ts_M) : Prop :=
  (wX11_amendment  (fun r2 M1 => (∀ M5, M5 = ts_sl M1 175 0 (ts_L r2) → Q 0 M5)) (fun E M3 => (E = "java/util/NoSuchElementException" ∧ Q 1 M3)) M)
set_option maxRecDepth 100000 in
set_option maxHeartbeats 4000000 in
theorem mL_amendment {l : Launch} {g : ts_W} (hl : l.stackTraces = false) {Q : Int → ts_M → Prop} {M : ts_M} : wL_amendment Q M → ts_ConW l g yL_amendment cL_amendment 3 (some .int) [(0, 8, 11, 24)] 7 1 6 [.ref (ts_ad g 154), .ref (ts_ad g 175)] M (ts_Ri Q) := by
  intro h0
  refine ts_ConW.of hl (by decide) (Nat.le_of_ble_eq_true rfl) ?_
  intro p e s m args below meth c hT C
  revert h0
  unfold wL_amendment
  have hl0 : lv_args 0 [.ref (ts_ad g 154), .ref (ts_ad g 175)] = [(0, .ref (ts_ad g 154)), (1, .ref (ts_ad g 175))] := rfl
  rw [hl0]
  refine ts_aload_n C dL_amendment_0 rfl 1 rfl ?_
  refine ts_iconst C dL_amendment_1 0 rfl ?_
  refine ts_aload_n C dL_amendment_2 rfl 0 rfl ?_
  refine ts_catchVi C hT [] (mX11_amendment hl) kX11_amendment q_1569 (by decide) shX11 rfl rfl rfl (Nat.le_of_ble_eq_true rfl) ⟨Nat.le_of_ble_eq_true rfl, Nat.le_of_ble_eq_true rfl⟩ ⟨Nat.le_of_ble_eq_true rfl, Nat.le_of_ble_eq_true rfl⟩ dL_amendment_3 ?_ (fun r2 M1 => ?_)
  · rintro E M3 ⟨rfl, h⟩
    refine ⟨11, ⟨[], [], 0, 8, 24, rfl, by decide, by decide, by decide, q_1406, qc_NoSuchElementException, fun _ h => absurd h List.not_mem_nil⟩, fun q4 => ?_⟩
    revert h
    refine ts_astore_n C dL_amendment_11 rfl (by decide) (lv' := [(2, .ref q4), (0, .ref (ts_ad g 154)), (1, .ref (ts_ad g 175))]) rfl ?_
    refine ts_iconst C dL_amendment_12 1 rfl ?_
    exact ts_ireti C (Nat.le_of_ble_eq_true rfl) (Nat.le_of_ble_eq_true rfl) dL_amendment_13
  refine ts_i2l C dL_amendment_6 ?_
  refine ts_lastc C (by decide) shG175 tw_0 (by decide) dL_amendment_7 (fun M5 => ?_)
  refine ts_goto C 14 dL_amendment_8 rfl ?_
  refine ts_iconst C dL_amendment_14 0 rfl ?_
  exact ts_ireti C (Nat.le_of_ble_eq_true rfl) (Nat.le_of_ble_eq_true rfl) dL_amendment_15
def wL_mainProposal (Q : Int → ts_M → Prop) (M : ts_M) : Prop :=
  (wX11_mainProposal  (fun r2 M1 => (∀ M5, M5 = ts_sl M1 175 0 (ts_L r2) → Q 0 M5)) (fun E M3 => (E = "java/util/NoSuchElementException" ∧ Q 1 M3)) M)
set_option maxRecDepth 100000 in
set_option maxHeartbeats 4000000 in
theorem mL_mainProposal {l : Launch} {g : ts_W} (hl : l.stackTraces = false) {Q : Int → ts_M → Prop} {M : ts_M} : wL_mainProposal Q M → ts_ConW l g yL_mainProposal cL_mainProposal 3 (some .int) [(0, 8, 11, 24)] 7 1 6 [.ref (ts_ad g 154), .ref (ts_ad g 175)] M (ts_Ri Q) := by
  intro h0
  refine ts_ConW.of hl (by decide) (Nat.le_of_ble_eq_true rfl) ?_
  intro p e s m args below meth c hT C
  revert h0
  unfold wL_mainProposal
  have hl0 : lv_args 0 [.ref (ts_ad g 154), .ref (ts_ad g 175)] = [(0, .ref (ts_ad g 154)), (1, .ref (ts_ad g 175))] := rfl
  rw [hl0]
  refine ts_aload_n C dL_mainProposal_0 rfl 1 rfl ?_
  refine ts_iconst C dL_mainProposal_1 0 rfl ?_
  refine ts_aload_n C dL_mainProposal_2 rfl 0 rfl ?_
  refine ts_catchVi C hT [] (mX11_mainProposal hl) kX11_mainProposal q_1581 (by decide) shX11 rfl rfl rfl (Nat.le_of_ble_eq_true rfl) ⟨Nat.le_of_ble_eq_true rfl, Nat.le_of_ble_eq_true rfl⟩ ⟨Nat.le_of_ble_eq_true rfl, Nat.le_of_ble_eq_true rfl⟩ dL_mainProposal_3 ?_ (fun r2 M1 => ?_)
  · rintro E M3 ⟨rfl, h⟩
    refine ⟨11, ⟨[], [], 0, 8, 24, rfl, by decide, by decide, by decide, q_1406, qc_NoSuchElementException, fun _ h => absurd h List.not_mem_nil⟩, fun q4 => ?_⟩
    revert h
    refine ts_astore_n C dL_mainProposal_11 rfl (by decide) (lv' := [(2, .ref q4), (0, .ref (ts_ad g 154)), (1, .ref (ts_ad g 175))]) rfl ?_
    refine ts_iconst C dL_mainProposal_12 1 rfl ?_
    exact ts_ireti C (Nat.le_of_ble_eq_true rfl) (Nat.le_of_ble_eq_true rfl) dL_mainProposal_13
  refine ts_i2l C dL_mainProposal_6 ?_
  refine ts_lastc C (by decide) shG175 tw_0 (by decide) dL_mainProposal_7 (fun M5 => ?_)
  refine ts_goto C 14 dL_mainProposal_8 rfl ?_
  refine ts_iconst C dL_mainProposal_14 0 rfl ?_
  exact ts_ireti C (Nat.le_of_ble_eq_true rfl) (Nat.le_of_ble_eq_true rfl) dL_mainProposal_15
def wL_canMove_B15   (Q : Int → ts_M → Prop)  (z0 : Int64) (z1 : Int) (M : ts_M) : Prop :=
  ((0 ≤ ts_w z1 ∧ ts_w z1 < ((1 : Nat) : Int)) ∧ ∀ M5, M5 = ts_sl M 175 (ts_w z1) z0 → Q 0 M5)
def wL_canMove (p2 : Int) (Q : Int → ts_M → Prop) (M : ts_M) : Prop :=
  (wX11_canMove p2 (fun r2 M1 => ((ts_w r2 = 0 → wL_canMove_B15 Q 0 0 M1) ∧ (¬ (ts_w r2 = 0) → wL_canMove_B15 Q 1 0 M1))) (fun E M3 => (E = "java/lang/IllegalArgumentException" ∧ Q 1 M3)) M)
set_option maxRecDepth 100000 in
set_option maxHeartbeats 4000000 in
theorem mL_canMove {l : Launch} {g : ts_W} (hl : l.stackTraces = false) {p2 : Int} {Q : Int → ts_M → Prop} {M : ts_M} : wL_canMove p2 Q M → ts_ConW l g yL_canMove cL_canMove 4 (some .int) [(0, 16, 19, 13)] 7 1 6 [.ref (ts_ad g 154), ts_v p2, .ref (ts_ad g 175)] M (ts_Ri Q) := by
  intro h0
  refine ts_ConW.of hl (by decide) (Nat.le_of_ble_eq_true rfl) ?_
  intro p e s m args below meth c hT C
  have H15 : ∀ (z0 : Int64) (z1 : Int) (M : ts_M), wL_canMove_B15   Q z0 z1 M → ts_V p l e (ts_rm 7 1 6) s m args below meth c g 4 1 6 (MQ below (ts_Q g (ts_Ri Q)) args s 1 6 (ts_A g)) 15 [] [.long z0, ts_v z1, .ref (ts_ad g 175)] M := by
    intro  z0 z1 M
    unfold wL_canMove_B15
    refine ts_last C (by decide) shG175 dL_canMove_15 (fun M5 => ?_)
    refine ts_goto C 22 dL_canMove_16 rfl ?_
    refine ts_iconst C dL_canMove_22 0 rfl ?_
    exact ts_ireti C (Nat.le_of_ble_eq_true rfl) (Nat.le_of_ble_eq_true rfl) dL_canMove_23
  revert h0
  unfold wL_canMove
  have hl0 : lv_args 0 [.ref (ts_ad g 154), ts_v p2, .ref (ts_ad g 175)] = [(0, .ref (ts_ad g 154)), (1, ts_v p2), (2, .ref (ts_ad g 175))] := rfl
  rw [hl0]
  refine ts_aload_n C dL_canMove_0 rfl 2 rfl ?_
  refine ts_iconst C dL_canMove_1 0 rfl ?_
  refine ts_aload_n C dL_canMove_2 rfl 0 rfl ?_
  refine ts_iload_n C dL_canMove_3 rfl 1 rfl ?_
  refine ts_catchVi C hT [ts_v p2] (mX11_canMove hl) kX11_canMove q_1589 (by decide) shX11 rfl rfl rfl (Nat.le_of_ble_eq_true rfl) ⟨Nat.le_of_ble_eq_true rfl, Nat.le_of_ble_eq_true rfl⟩ ⟨Nat.le_of_ble_eq_true rfl, Nat.le_of_ble_eq_true rfl⟩ dL_canMove_4 ?_ (fun r2 M1 => ?_)
  · rintro E M3 ⟨rfl, h⟩
    refine ⟨19, ⟨[], [], 0, 16, 13, rfl, by decide, by decide, by decide, q_1089, qc_IllegalArgumentException, fun _ h => absurd h List.not_mem_nil⟩, fun q4 => ?_⟩
    revert h
    refine ts_astore_n C dL_canMove_19 rfl (by decide) (lv' := [(3, .ref q4), (0, .ref (ts_ad g 154)), (1, ts_v p2), (2, .ref (ts_ad g 175))]) rfl ?_
    refine ts_iconst C dL_canMove_20 1 rfl ?_
    exact ts_ireti C (Nat.le_of_ble_eq_true rfl) (Nat.le_of_ble_eq_true rfl) dL_canMove_21
  refine ts_cm0_eq C rfl 14 dL_canMove_7 rfl ?_ ?_
  · refine ts_lconst C dL_canMove_14 0 rfl ?_
    exact ts_sub [] rfl (H15 _ _ _)
  · refine ts_lconst C dL_canMove_10 1 rfl ?_
    refine ts_goto C 15 dL_canMove_11 rfl ?_
    exact ts_sub [] rfl (H15 _ _ _)
def wL_yesVotes (Q : Int → ts_M → Prop) (M : ts_M) : Prop :=
  (wX11_yesVotes  (fun r2 M1 => (∀ M5, M5 = ts_sl M1 175 0 (ts_L r2) → Q 0 M5)) (fun E M3 => (E = "java/util/NoSuchElementException" ∧ Q 1 M3)) M)
set_option maxRecDepth 100000 in
set_option maxHeartbeats 4000000 in
theorem mL_yesVotes {l : Launch} {g : ts_W} (hl : l.stackTraces = false) {Q : Int → ts_M → Prop} {M : ts_M} : wL_yesVotes Q M → ts_ConW l g yL_yesVotes cL_yesVotes 3 (some .int) [(0, 8, 11, 24)] 8 1 6 [.ref (ts_ad g 154), .ref (ts_ad g 175)] M (ts_Ri Q) := by
  intro h0
  refine ts_ConW.of hl (by decide) (Nat.le_of_ble_eq_true rfl) ?_
  intro p e s m args below meth c hT C
  revert h0
  unfold wL_yesVotes
  have hl0 : lv_args 0 [.ref (ts_ad g 154), .ref (ts_ad g 175)] = [(0, .ref (ts_ad g 154)), (1, .ref (ts_ad g 175))] := rfl
  rw [hl0]
  refine ts_aload_n C dL_yesVotes_0 rfl 1 rfl ?_
  refine ts_iconst C dL_yesVotes_1 0 rfl ?_
  refine ts_aload_n C dL_yesVotes_2 rfl 0 rfl ?_
  refine ts_catchVi C hT [] (mX11_yesVotes hl) kX11_yesVotes q_1645 (by decide) shX11 rfl rfl rfl (Nat.le_of_ble_eq_true rfl) ⟨Nat.le_of_ble_eq_true rfl, Nat.le_of_ble_eq_true rfl⟩ ⟨Nat.le_of_ble_eq_true rfl, Nat.le_of_ble_eq_true rfl⟩ dL_yesVotes_3 ?_ (fun r2 M1 => ?_)
  · rintro E M3 ⟨rfl, h⟩
    refine ⟨11, ⟨[], [], 0, 8, 24, rfl, by decide, by decide, by decide, q_1406, qc_NoSuchElementException, fun _ h => absurd h List.not_mem_nil⟩, fun q4 => ?_⟩
    revert h
    refine ts_astore_n C dL_yesVotes_11 rfl (by decide) (lv' := [(2, .ref q4), (0, .ref (ts_ad g 154)), (1, .ref (ts_ad g 175))]) rfl ?_
    refine ts_iconst C dL_yesVotes_12 1 rfl ?_
    exact ts_ireti C (Nat.le_of_ble_eq_true rfl) (Nat.le_of_ble_eq_true rfl) dL_yesVotes_13
  refine ts_i2l C dL_yesVotes_6 ?_
  refine ts_lastc C (by decide) shG175 tw_0 (by decide) dL_yesVotes_7 (fun M5 => ?_)
  refine ts_goto C 14 dL_yesVotes_8 rfl ?_
  refine ts_iconst C dL_yesVotes_14 0 rfl ?_
  exact ts_ireti C (Nat.le_of_ble_eq_true rfl) (Nat.le_of_ble_eq_true rfl) dL_yesVotes_15
def wL_wouldPass_B14   (Q : Int → ts_M → Prop)  (z0 : Int64) (z1 : Int) (M : ts_M) : Prop :=
  ((0 ≤ ts_w z1 ∧ ts_w z1 < ((1 : Nat) : Int)) ∧ ∀ M5, M5 = ts_sl M 175 (ts_w z1) z0 → Q 0 M5)
def wL_wouldPass (Q : Int → ts_M → Prop) (M : ts_M) : Prop :=
  (wX11_wouldPass  (fun r2 M1 => ((ts_w r2 = 0 → wL_wouldPass_B14 Q 0 0 M1) ∧ (¬ (ts_w r2 = 0) → wL_wouldPass_B14 Q 1 0 M1))) (fun E M3 => (E = "java/util/NoSuchElementException" ∧ Q 1 M3)) M)
set_option maxRecDepth 100000 in
set_option maxHeartbeats 4000000 in
theorem mL_wouldPass {l : Launch} {g : ts_W} (hl : l.stackTraces = false) {Q : Int → ts_M → Prop} {M : ts_M} : wL_wouldPass Q M → ts_ConW l g yL_wouldPass cL_wouldPass 3 (some .int) [(0, 15, 18, 24)] 8 1 6 [.ref (ts_ad g 154), .ref (ts_ad g 175)] M (ts_Ri Q) := by
  intro h0
  refine ts_ConW.of hl (by decide) (Nat.le_of_ble_eq_true rfl) ?_
  intro p e s m args below meth c hT C
  have H14 : ∀ (z0 : Int64) (z1 : Int) (M : ts_M), wL_wouldPass_B14   Q z0 z1 M → ts_V p l e (ts_rm 8 1 6) s m args below meth c g 3 1 6 (MQ below (ts_Q g (ts_Ri Q)) args s 1 6 (ts_A g)) 14 [] [.long z0, ts_v z1, .ref (ts_ad g 175)] M := by
    intro  z0 z1 M
    unfold wL_wouldPass_B14
    refine ts_last C (by decide) shG175 dL_wouldPass_14 (fun M5 => ?_)
    refine ts_goto C 21 dL_wouldPass_15 rfl ?_
    refine ts_iconst C dL_wouldPass_21 0 rfl ?_
    exact ts_ireti C (Nat.le_of_ble_eq_true rfl) (Nat.le_of_ble_eq_true rfl) dL_wouldPass_22
  revert h0
  unfold wL_wouldPass
  have hl0 : lv_args 0 [.ref (ts_ad g 154), .ref (ts_ad g 175)] = [(0, .ref (ts_ad g 154)), (1, .ref (ts_ad g 175))] := rfl
  rw [hl0]
  refine ts_aload_n C dL_wouldPass_0 rfl 1 rfl ?_
  refine ts_iconst C dL_wouldPass_1 0 rfl ?_
  refine ts_aload_n C dL_wouldPass_2 rfl 0 rfl ?_
  refine ts_catchVi C hT [] (mX11_wouldPass hl) kX11_wouldPass q_1658 (by decide) shX11 rfl rfl rfl (Nat.le_of_ble_eq_true rfl) ⟨Nat.le_of_ble_eq_true rfl, Nat.le_of_ble_eq_true rfl⟩ ⟨Nat.le_of_ble_eq_true rfl, Nat.le_of_ble_eq_true rfl⟩ dL_wouldPass_3 ?_ (fun r2 M1 => ?_)
  · rintro E M3 ⟨rfl, h⟩
    refine ⟨18, ⟨[], [], 0, 15, 24, rfl, by decide, by decide, by decide, q_1406, qc_NoSuchElementException, fun _ h => absurd h List.not_mem_nil⟩, fun q4 => ?_⟩
    revert h
    refine ts_astore_n C dL_wouldPass_18 rfl (by decide) (lv' := [(2, .ref q4), (0, .ref (ts_ad g 154)), (1, .ref (ts_ad g 175))]) rfl ?_
    refine ts_iconst C dL_wouldPass_19 1 rfl ?_
    exact ts_ireti C (Nat.le_of_ble_eq_true rfl) (Nat.le_of_ble_eq_true rfl) dL_wouldPass_20
  refine ts_cm0_eq C rfl 13 dL_wouldPass_6 rfl ?_ ?_
  · refine ts_lconst C dL_wouldPass_13 0 rfl ?_
    exact ts_sub [] rfl (H14 _ _ _)
  · refine ts_lconst C dL_wouldPass_9 1 rfl ?_
    refine ts_goto C 14 dL_wouldPass_10 rfl ?_
    exact ts_sub [] rfl (H14 _ _ _)
def wL_votesYes_B15   (Q : Int → ts_M → Prop)  (z0 : Int64) (z1 : Int) (M : ts_M) : Prop :=
  ((0 ≤ ts_w z1 ∧ ts_w z1 < ((1 : Nat) : Int)) ∧ ∀ M5, M5 = ts_sl M 175 (ts_w z1) z0 → Q 0 M5)
def wL_votesYes (p2 : Int) (Q : Int → ts_M → Prop) (M : ts_M) : Prop :=
  (wX11_votesYes p2 (fun r2 M1 => ((ts_w r2 = 0 → wL_votesYes_B15 Q 0 0 M1) ∧ (¬ (ts_w r2 = 0) → wL_votesYes_B15 Q 1 0 M1))) (fun E M3 => (E = "java/lang/IndexOutOfBoundsException" ∧ Q 1 M3) ∨ (E = "java/util/NoSuchElementException" ∧ Q 2 M3)) M)
set_option maxRecDepth 100000 in
set_option maxHeartbeats 4000000 in
theorem mL_votesYes {l : Launch} {g : ts_W} (hl : l.stackTraces = false) {p2 : Int} {Q : Int → ts_M → Prop} {M : ts_M} : wL_votesYes p2 Q M → ts_ConW l g yL_votesYes cL_votesYes 4 (some .int) [(0, 16, 19, 44), (0, 16, 22, 24)] 8 2 12 [.ref (ts_ad g 154), ts_v p2, .ref (ts_ad g 175)] M (ts_Ri Q) := by
  intro h0
  refine ts_ConW.of hl (by decide) (Nat.le_of_ble_eq_true rfl) ?_
  intro p e s m args below meth c hT C
  have H15 : ∀ (z0 : Int64) (z1 : Int) (M : ts_M), wL_votesYes_B15   Q z0 z1 M → ts_V p l e (ts_rm 8 2 12) s m args below meth c g 4 2 12 (MQ below (ts_Q g (ts_Ri Q)) args s 2 12 (ts_A g)) 15 [] [.long z0, ts_v z1, .ref (ts_ad g 175)] M := by
    intro  z0 z1 M
    unfold wL_votesYes_B15
    refine ts_last C (by decide) shG175 dL_votesYes_15 (fun M5 => ?_)
    refine ts_goto C 25 dL_votesYes_16 rfl ?_
    refine ts_iconst C dL_votesYes_25 0 rfl ?_
    exact ts_ireti C (Nat.le_of_ble_eq_true rfl) (Nat.le_of_ble_eq_true rfl) dL_votesYes_26
  revert h0
  unfold wL_votesYes
  have hl0 : lv_args 0 [.ref (ts_ad g 154), ts_v p2, .ref (ts_ad g 175)] = [(0, .ref (ts_ad g 154)), (1, ts_v p2), (2, .ref (ts_ad g 175))] := rfl
  rw [hl0]
  refine ts_aload_n C dL_votesYes_0 rfl 2 rfl ?_
  refine ts_iconst C dL_votesYes_1 0 rfl ?_
  refine ts_aload_n C dL_votesYes_2 rfl 0 rfl ?_
  refine ts_iload_n C dL_votesYes_3 rfl 1 rfl ?_
  refine ts_catchVi C hT [ts_v p2] (mX11_votesYes hl) kX11_votesYes q_1666 (by decide) shX11 rfl rfl rfl (Nat.le_of_ble_eq_true rfl) ⟨Nat.le_of_ble_eq_true rfl, Nat.le_of_ble_eq_true rfl⟩ ⟨Nat.le_of_ble_eq_true rfl, Nat.le_of_ble_eq_true rfl⟩ dL_votesYes_4 ?_ (fun r2 M1 => ?_)
  · rintro E M3 (⟨rfl, h⟩ | ⟨rfl, h⟩)
    · refine ⟨19, ⟨[], [(0, 16, 22, 24)], 0, 16, 44, rfl, by decide, by decide, by decide, q_1453, qc_IndexOutOfBoundsException, fun _ h => absurd h List.not_mem_nil⟩, fun q4 => ?_⟩
      revert h
      refine ts_astore_n C dL_votesYes_19 rfl (by decide) (lv' := [(3, .ref q4), (0, .ref (ts_ad g 154)), (1, ts_v p2), (2, .ref (ts_ad g 175))]) rfl ?_
      refine ts_iconst C dL_votesYes_20 1 rfl ?_
      exact ts_ireti C (Nat.le_of_ble_eq_true rfl) (Nat.le_of_ble_eq_true rfl) dL_votesYes_21
    · refine ⟨22, ⟨[(0, 16, 19, 44)], [], 0, 16, 24, rfl, by decide, by decide, by decide, q_1406, qc_NoSuchElementException, List.forall_mem_cons.mpr ⟨⟨by decide, "java/lang/IndexOutOfBoundsException", q_1453, by decide⟩, fun _ h => absurd h List.not_mem_nil⟩⟩, fun q4 => ?_⟩
      revert h
      refine ts_astore_n C dL_votesYes_22 rfl (by decide) (lv' := [(3, .ref q4), (0, .ref (ts_ad g 154)), (1, ts_v p2), (2, .ref (ts_ad g 175))]) rfl ?_
      refine ts_iconst C dL_votesYes_23 2 rfl ?_
      exact ts_ireti C (Nat.le_of_ble_eq_true rfl) (Nat.le_of_ble_eq_true rfl) dL_votesYes_24
  refine ts_cm0_eq C rfl 14 dL_votesYes_7 rfl ?_ ?_
  · refine ts_lconst C dL_votesYes_14 0 rfl ?_
    exact ts_sub [] rfl (H15 _ _ _)
  · refine ts_lconst C dL_votesYes_10 1 rfl ?_
    refine ts_goto C 15 dL_votesYes_11 rfl ?_
    exact ts_sub [] rfl (H15 _ _ _)
def wL_support (p2 : Int) (p3 : Int) (Q : Int → ts_M → Prop) (M : ts_M) : Prop :=
  (wX11_support p2 p3 (fun r2 M1 => (∀ M5, M5 = ts_sl M1 175 0 (ts_L r2) → Q 0 M5)) (fun E M3 => (E = "java/util/NoSuchElementException" ∧ Q 1 M3)) M)
set_option maxRecDepth 100000 in
set_option maxHeartbeats 4000000 in
theorem mL_support {l : Launch} {g : ts_W} (hl : l.stackTraces = false) {p2 : Int} {p3 : Int} {Q : Int → ts_M → Prop} {M : ts_M} : wL_support p2 p3 Q M → ts_ConW l g yL_support cL_support 5 (some .int) [(0, 10, 13, 24)] 8 2 12 [.ref (ts_ad g 154), ts_v p2, ts_v p3, .ref (ts_ad g 175)] M (ts_Ri Q) := by
  intro h0
  refine ts_ConW.of hl (by decide) (Nat.le_of_ble_eq_true rfl) ?_
  intro p e s m args below meth c hT C
  revert h0
  unfold wL_support
  have hl0 : lv_args 0 [.ref (ts_ad g 154), ts_v p2, ts_v p3, .ref (ts_ad g 175)] = [(0, .ref (ts_ad g 154)), (1, ts_v p2), (2, ts_v p3), (3, .ref (ts_ad g 175))] := rfl
  rw [hl0]
  refine ts_aload_n C dL_support_0 rfl 3 rfl ?_
  refine ts_iconst C dL_support_1 0 rfl ?_
  refine ts_aload_n C dL_support_2 rfl 0 rfl ?_
  refine ts_iload_n C dL_support_3 rfl 1 rfl ?_
  refine ts_iload_n C dL_support_4 rfl 2 rfl ?_
  refine ts_catchVi C hT [ts_v p2, ts_v p3] (mX11_support hl) kX11_support q_1675 (by decide) shX11 rfl rfl rfl (Nat.le_of_ble_eq_true rfl) ⟨Nat.le_of_ble_eq_true rfl, Nat.le_of_ble_eq_true rfl⟩ ⟨Nat.le_of_ble_eq_true rfl, Nat.le_of_ble_eq_true rfl⟩ dL_support_5 ?_ (fun r2 M1 => ?_)
  · rintro E M3 ⟨rfl, h⟩
    refine ⟨13, ⟨[], [], 0, 10, 24, rfl, by decide, by decide, by decide, q_1406, qc_NoSuchElementException, fun _ h => absurd h List.not_mem_nil⟩, fun q4 => ?_⟩
    revert h
    refine ts_astore C dL_support_13 (by decide) (lv' := [(4, .ref q4), (0, .ref (ts_ad g 154)), (1, ts_v p2), (2, ts_v p3), (3, .ref (ts_ad g 175))]) rfl ?_
    refine ts_iconst C dL_support_15 1 rfl ?_
    exact ts_ireti C (Nat.le_of_ble_eq_true rfl) (Nat.le_of_ble_eq_true rfl) dL_support_16
  refine ts_i2l C dL_support_8 ?_
  refine ts_lastc C (by decide) shG175 tw_0 (by decide) dL_support_9 (fun M5 => ?_)
  refine ts_goto C 17 dL_support_10 rfl ?_
  refine ts_iconst C dL_support_17 0 rfl ?_
  exact ts_ireti C (Nat.le_of_ble_eq_true rfl) (Nat.le_of_ble_eq_true rfl) dL_support_18
def wL_bestOrder (p2 : Int) (Q : Int → ts_M → Prop) (M : ts_M) : Prop :=
  (wX11_bestOrder p2 (fun r2 M1 => (∀ M5, M5 = ts_sl M1 175 0 (ts_L r2) → Q 0 M5)) (fun E M3 => (E = "java/util/NoSuchElementException" ∧ Q 1 M3)) M)
set_option maxRecDepth 100000 in
set_option maxHeartbeats 4000000 in
theorem mL_bestOrder {l : Launch} {g : ts_W} (hl : l.stackTraces = false) {p2 : Int} {Q : Int → ts_M → Prop} {M : ts_M} : wL_bestOrder p2 Q M → ts_ConW l g yL_bestOrder cL_bestOrder 4 (some .int) [(0, 9, 12, 24)] 8 1 6 [.ref (ts_ad g 154), ts_v p2, .ref (ts_ad g 175)] M (ts_Ri Q) := by
  intro h0
  refine ts_ConW.of hl (by decide) (Nat.le_of_ble_eq_true rfl) ?_
  intro p e s m args below meth c hT C
  revert h0
  unfold wL_bestOrder
  have hl0 : lv_args 0 [.ref (ts_ad g 154), ts_v p2, .ref (ts_ad g 175)] = [(0, .ref (ts_ad g 154)), (1, ts_v p2), (2, .ref (ts_ad g 175))] := rfl
  rw [hl0]
  refine ts_aload_n C dL_bestOrder_0 rfl 2 rfl ?_
  refine ts_iconst C dL_bestOrder_1 0 rfl ?_
  refine ts_aload_n C dL_bestOrder_2 rfl 0 rfl ?_
  refine ts_iload_n C dL_bestOrder_3 rfl 1 rfl ?_
  refine ts_catchVi C hT [ts_v p2] (mX11_bestOrder hl) kX11_bestOrder q_1683 (by decide) shX11 rfl rfl rfl (Nat.le_of_ble_eq_true rfl) ⟨Nat.le_of_ble_eq_true rfl, Nat.le_of_ble_eq_true rfl⟩ ⟨Nat.le_of_ble_eq_true rfl, Nat.le_of_ble_eq_true rfl⟩ dL_bestOrder_4 ?_ (fun r2 M1 => ?_)
  · rintro E M3 ⟨rfl, h⟩
    refine ⟨12, ⟨[], [], 0, 9, 24, rfl, by decide, by decide, by decide, q_1406, qc_NoSuchElementException, fun _ h => absurd h List.not_mem_nil⟩, fun q4 => ?_⟩
    revert h
    refine ts_astore_n C dL_bestOrder_12 rfl (by decide) (lv' := [(3, .ref q4), (0, .ref (ts_ad g 154)), (1, ts_v p2), (2, .ref (ts_ad g 175))]) rfl ?_
    refine ts_iconst C dL_bestOrder_13 1 rfl ?_
    exact ts_ireti C (Nat.le_of_ble_eq_true rfl) (Nat.le_of_ble_eq_true rfl) dL_bestOrder_14
  refine ts_i2l C dL_bestOrder_7 ?_
  refine ts_lastc C (by decide) shG175 tw_0 (by decide) dL_bestOrder_8 (fun M5 => ?_)
  refine ts_goto C 15 dL_bestOrder_9 rfl ?_
  refine ts_iconst C dL_bestOrder_15 0 rfl ?_
  exact ts_ireti C (Nat.le_of_ble_eq_true rfl) (Nat.le_of_ble_eq_true rfl) dL_bestOrder_16
def wL_isInTop_B15   (Q : Int → ts_M → Prop)  (z0 : Int64) (z1 : Int) (M : ts_M) : Prop :=
  ((0 ≤ ts_w z1 ∧ ts_w z1 < ((1 : Nat) : Int)) ∧ ∀ M5, M5 = ts_sl M 175 (ts_w z1) z0 → Q 0 M5)
def wL_isInTop (p2 : Int) (Q : Int → ts_M → Prop) (M : ts_M) : Prop :=
  (wX11_isInTop p2 (fun r2 M1 => ((ts_w r2 = 0 → wL_isInTop_B15 Q 0 0 M1) ∧ (¬ (ts_w r2 = 0) → wL_isInTop_B15 Q 1 0 M1))) (fun E M3 => (E = "java/util/NoSuchElementException" ∧ Q 1 M3)) M)
set_option maxRecDepth 100000 in
set_option maxHeartbeats 4000000 in
theorem mL_isInTop {l : Launch} {g : ts_W} (hl : l.stackTraces = false) {p2 : Int} {Q : Int → ts_M → Prop} {M : ts_M} : wL_isInTop p2 Q M → ts_ConW l g yL_isInTop cL_isInTop 4 (some .int) [(0, 16, 19, 24)] 8 1 6 [.ref (ts_ad g 154), ts_v p2, .ref (ts_ad g 175)] M (ts_Ri Q) := by
  intro h0
  refine ts_ConW.of hl (by decide) (Nat.le_of_ble_eq_true rfl) ?_
  intro p e s m args below meth c hT C
  have H15 : ∀ (z0 : Int64) (z1 : Int) (M : ts_M), wL_isInTop_B15   Q z0 z1 M → ts_V p l e (ts_rm 8 1 6) s m args below meth c g 4 1 6 (MQ below (ts_Q g (ts_Ri Q)) args s 1 6 (ts_A g)) 15 [] [.long z0, ts_v z1, .ref (ts_ad g 175)] M := by
    intro  z0 z1 M
    unfold wL_isInTop_B15
    refine ts_last C (by decide) shG175 dL_isInTop_15 (fun M5 => ?_)
    refine ts_goto C 22 dL_isInTop_16 rfl ?_
    refine ts_iconst C dL_isInTop_22 0 rfl ?_
    exact ts_ireti C (Nat.le_of_ble_eq_true rfl) (Nat.le_of_ble_eq_true rfl) dL_isInTop_23
  revert h0
  unfold wL_isInTop
  have hl0 : lv_args 0 [.ref (ts_ad g 154), ts_v p2, .ref (ts_ad g 175)] = [(0, .ref (ts_ad g 154)), (1, ts_v p2), (2, .ref (ts_ad g 175))] := rfl
  rw [hl0]
  refine ts_aload_n C dL_isInTop_0 rfl 2 rfl ?_
  refine ts_iconst C dL_isInTop_1 0 rfl ?_
  refine ts_aload_n C dL_isInTop_2 rfl 0 rfl ?_
  refine ts_iload_n C dL_isInTop_3 rfl 1 rfl ?_
  refine ts_catchVi C hT [ts_v p2] (mX11_isInTop hl) kX11_isInTop q_1699 (by decide) shX11 rfl rfl rfl (Nat.le_of_ble_eq_true rfl) ⟨Nat.le_of_ble_eq_true rfl, Nat.le_of_ble_eq_true rfl⟩ ⟨Nat.le_of_ble_eq_true rfl, Nat.le_of_ble_eq_true rfl⟩ dL_isInTop_4 ?_ (fun r2 M1 => ?_)
  · rintro E M3 ⟨rfl, h⟩
    refine ⟨19, ⟨[], [], 0, 16, 24, rfl, by decide, by decide, by decide, q_1406, qc_NoSuchElementException, fun _ h => absurd h List.not_mem_nil⟩, fun q4 => ?_⟩
    revert h
    refine ts_astore_n C dL_isInTop_19 rfl (by decide) (lv' := [(3, .ref q4), (0, .ref (ts_ad g 154)), (1, ts_v p2), (2, .ref (ts_ad g 175))]) rfl ?_
    refine ts_iconst C dL_isInTop_20 1 rfl ?_
    exact ts_ireti C (Nat.le_of_ble_eq_true rfl) (Nat.le_of_ble_eq_true rfl) dL_isInTop_21
  refine ts_cm0_eq C rfl 14 dL_isInTop_7 rfl ?_ ?_
  · refine ts_lconst C dL_isInTop_14 0 rfl ?_
    exact ts_sub [] rfl (H15 _ _ _)
  · refine ts_lconst C dL_isInTop_10 1 rfl ?_
    refine ts_goto C 15 dL_isInTop_11 rfl ?_
    exact ts_sub [] rfl (H15 _ _ _)
def wL_isInTopBySets_B15   (Q : Int → ts_M → Prop)  (z0 : Int64) (z1 : Int) (M : ts_M) : Prop :=
  ((0 ≤ ts_w z1 ∧ ts_w z1 < ((1 : Nat) : Int)) ∧ ∀ M5, M5 = ts_sl M 175 (ts_w z1) z0 → Q 0 M5)
def wL_isInTopBySets (p2 : Int) (Q : Int → ts_M → Prop) (M : ts_M) : Prop :=
  (wX11_isInTopBySets p2 (fun r2 M1 => ((ts_w r2 = 0 → wL_isInTopBySets_B15 Q 0 0 M1) ∧ (¬ (ts_w r2 = 0) → wL_isInTopBySets_B15 Q 1 0 M1))) (fun E M3 => (E = "java/util/NoSuchElementException" ∧ Q 1 M3)) M)
set_option maxRecDepth 100000 in
set_option maxHeartbeats 4000000 in
theorem mL_isInTopBySets {l : Launch} {g : ts_W} (hl : l.stackTraces = false) {p2 : Int} {Q : Int → ts_M → Prop} {M : ts_M} : wL_isInTopBySets p2 Q M → ts_ConW l g yL_isInTopBySets cL_isInTopBySets 4 (some .int) [(0, 16, 19, 24)] 8 1 6 [.ref (ts_ad g 154), ts_v p2, .ref (ts_ad g 175)] M (ts_Ri Q) := by
  intro h0
  refine ts_ConW.of hl (by decide) (Nat.le_of_ble_eq_true rfl) ?_
  intro p e s m args below meth c hT C
  have H15 : ∀ (z0 : Int64) (z1 : Int) (M : ts_M), wL_isInTopBySets_B15   Q z0 z1 M → ts_V p l e (ts_rm 8 1 6) s m args below meth c g 4 1 6 (MQ below (ts_Q g (ts_Ri Q)) args s 1 6 (ts_A g)) 15 [] [.long z0, ts_v z1, .ref (ts_ad g 175)] M := by
    intro  z0 z1 M
    unfold wL_isInTopBySets_B15
    refine ts_last C (by decide) shG175 dL_isInTopBySets_15 (fun M5 => ?_)
    refine ts_goto C 22 dL_isInTopBySets_16 rfl ?_
    refine ts_iconst C dL_isInTopBySets_22 0 rfl ?_
    exact ts_ireti C (Nat.le_of_ble_eq_true rfl) (Nat.le_of_ble_eq_true rfl) dL_isInTopBySets_23
  revert h0
  unfold wL_isInTopBySets
  have hl0 : lv_args 0 [.ref (ts_ad g 154), ts_v p2, .ref (ts_ad g 175)] = [(0, .ref (ts_ad g 154)), (1, ts_v p2), (2, .ref (ts_ad g 175))] := rfl
  rw [hl0]
  refine ts_aload_n C dL_isInTopBySets_0 rfl 2 rfl ?_
  refine ts_iconst C dL_isInTopBySets_1 0 rfl ?_
  refine ts_aload_n C dL_isInTopBySets_2 rfl 0 rfl ?_
  refine ts_iload_n C dL_isInTopBySets_3 rfl 1 rfl ?_
  refine ts_catchVi C hT [ts_v p2] (mX11_isInTopBySets hl) kX11_isInTopBySets q_1707 (by decide) shX11 rfl rfl rfl (Nat.le_of_ble_eq_true rfl) ⟨Nat.le_of_ble_eq_true rfl, Nat.le_of_ble_eq_true rfl⟩ ⟨Nat.le_of_ble_eq_true rfl, Nat.le_of_ble_eq_true rfl⟩ dL_isInTopBySets_4 ?_ (fun r2 M1 => ?_)
  · rintro E M3 ⟨rfl, h⟩
    refine ⟨19, ⟨[], [], 0, 16, 24, rfl, by decide, by decide, by decide, q_1406, qc_NoSuchElementException, fun _ h => absurd h List.not_mem_nil⟩, fun q4 => ?_⟩
    revert h
    refine ts_astore_n C dL_isInTopBySets_19 rfl (by decide) (lv' := [(3, .ref q4), (0, .ref (ts_ad g 154)), (1, ts_v p2), (2, .ref (ts_ad g 175))]) rfl ?_
    refine ts_iconst C dL_isInTopBySets_20 1 rfl ?_
    exact ts_ireti C (Nat.le_of_ble_eq_true rfl) (Nat.le_of_ble_eq_true rfl) dL_isInTopBySets_21
  refine ts_cm0_eq C rfl 14 dL_isInTopBySets_7 rfl ?_ ?_
  · refine ts_lconst C dL_isInTopBySets_14 0 rfl ?_
    exact ts_sub [] rfl (H15 _ _ _)
  · refine ts_lconst C dL_isInTopBySets_10 1 rfl ?_
    refine ts_goto C 15 dL_isInTopBySets_11 rfl ?_
    exact ts_sub [] rfl (H15 _ _ _)
def wL_isWet_B16   (Q : Int → ts_M → Prop)  (z0 : Int64) (z1 : Int) (M : ts_M) : Prop :=
  ((0 ≤ ts_w z1 ∧ ts_w z1 < ((1 : Nat) : Int)) ∧ ∀ M5, M5 = ts_sl M 175 (ts_w z1) z0 → Q 0 M5)
def wL_isWet (p2 : Int) (p3 : Int) (Q : Int → ts_M → Prop) (M : ts_M) : Prop :=
  (wX11_isWet p2 p3 (fun r2 M1 => ((ts_w r2 = 0 → wL_isWet_B16 Q 0 0 M1) ∧ (¬ (ts_w r2 = 0) → wL_isWet_B16 Q 1 0 M1))) (fun E M3 => (E = "java/lang/IndexOutOfBoundsException" ∧ Q 1 M3)) M)
set_option maxRecDepth 100000 in
set_option maxHeartbeats 4000000 in
theorem mL_isWet {l : Launch} {g : ts_W} (hl : l.stackTraces = false) {p2 : Int} {p3 : Int} {Q : Int → ts_M → Prop} {M : ts_M} : wL_isWet p2 p3 Q M → ts_ConW l g yL_isWet cL_isWet 5 (some .int) [(0, 17, 20, 44)] 8 1 6 [.ref (ts_ad g 154), ts_v p2, ts_v p3, .ref (ts_ad g 175)] M (ts_Ri Q) := by
  intro h0
  refine ts_ConW.of hl (by decide) (Nat.le_of_ble_eq_true rfl) ?_
  intro p e s m args below meth c hT C
  have H16 : ∀ (z0 : Int64) (z1 : Int) (M : ts_M), wL_isWet_B16   Q z0 z1 M → ts_V p l e (ts_rm 8 1 6) s m args below meth c g 5 1 6 (MQ below (ts_Q g (ts_Ri Q)) args s 1 6 (ts_A g)) 16 [] [.long z0, ts_v z1, .ref (ts_ad g 175)] M := by
    intro  z0 z1 M
    unfold wL_isWet_B16
    refine ts_last C (by decide) shG175 dL_isWet_16 (fun M5 => ?_)
    refine ts_goto C 24 dL_isWet_17 rfl ?_
    refine ts_iconst C dL_isWet_24 0 rfl ?_
    exact ts_ireti C (Nat.le_of_ble_eq_true rfl) (Nat.le_of_ble_eq_true rfl) dL_isWet_25
  revert h0
  unfold wL_isWet
  have hl0 : lv_args 0 [.ref (ts_ad g 154), ts_v p2, ts_v p3, .ref (ts_ad g 175)] = [(0, .ref (ts_ad g 154)), (1, ts_v p2), (2, ts_v p3), (3, .ref (ts_ad g 175))] := rfl
  rw [hl0]
  refine ts_aload_n C dL_isWet_0 rfl 3 rfl ?_
  refine ts_iconst C dL_isWet_1 0 rfl ?_
  refine ts_aload_n C dL_isWet_2 rfl 0 rfl ?_
  refine ts_iload_n C dL_isWet_3 rfl 1 rfl ?_
  refine ts_iload_n C dL_isWet_4 rfl 2 rfl ?_
  refine ts_catchVi C hT [ts_v p2, ts_v p3] (mX11_isWet hl) kX11_isWet q_1716 (by decide) shX11 rfl rfl rfl (Nat.le_of_ble_eq_true rfl) ⟨Nat.le_of_ble_eq_true rfl, Nat.le_of_ble_eq_true rfl⟩ ⟨Nat.le_of_ble_eq_true rfl, Nat.le_of_ble_eq_true rfl⟩ dL_isWet_5 ?_ (fun r2 M1 => ?_)
  · rintro E M3 ⟨rfl, h⟩
    refine ⟨20, ⟨[], [], 0, 17, 44, rfl, by decide, by decide, by decide, q_1453, qc_IndexOutOfBoundsException, fun _ h => absurd h List.not_mem_nil⟩, fun q4 => ?_⟩
    revert h
    refine ts_astore C dL_isWet_20 (by decide) (lv' := [(4, .ref q4), (0, .ref (ts_ad g 154)), (1, ts_v p2), (2, ts_v p3), (3, .ref (ts_ad g 175))]) rfl ?_
    refine ts_iconst C dL_isWet_22 1 rfl ?_
    exact ts_ireti C (Nat.le_of_ble_eq_true rfl) (Nat.le_of_ble_eq_true rfl) dL_isWet_23
  refine ts_cm0_eq C rfl 15 dL_isWet_8 rfl ?_ ?_
  · refine ts_lconst C dL_isWet_15 0 rfl ?_
    exact ts_sub [] rfl (H16 _ _ _)
  · refine ts_lconst C dL_isWet_11 1 rfl ?_
    refine ts_goto C 16 dL_isWet_12 rfl ?_
    exact ts_sub [] rfl (H16 _ _ _)
def wL_puddle (p2 : Int) (p3 : Int) (Q : Int → ts_M → Prop) (M : ts_M) : Prop :=
  (wX11_puddle p2 p3 (fun r2 M1 => (∀ M5, M5 = ts_sl M1 175 0 (ts_L r2) → Q 0 M5)) (fun E M3 => (E = "java/lang/IndexOutOfBoundsException" ∧ Q 1 M3)) M)
set_option maxRecDepth 100000 in
set_option maxHeartbeats 4000000 in
theorem mL_puddle {l : Launch} {g : ts_W} (hl : l.stackTraces = false) {p2 : Int} {p3 : Int} {Q : Int → ts_M → Prop} {M : ts_M} : wL_puddle p2 p3 Q M → ts_ConW l g yL_puddle cL_puddle 5 (some .int) [(0, 10, 13, 44)] 8 1 6 [.ref (ts_ad g 154), ts_v p2, ts_v p3, .ref (ts_ad g 175)] M (ts_Ri Q) := by
  intro h0
  refine ts_ConW.of hl (by decide) (Nat.le_of_ble_eq_true rfl) ?_
  intro p e s m args below meth c hT C
  revert h0
  unfold wL_puddle
  have hl0 : lv_args 0 [.ref (ts_ad g 154), ts_v p2, ts_v p3, .ref (ts_ad g 175)] = [(0, .ref (ts_ad g 154)), (1, ts_v p2), (2, ts_v p3), (3, .ref (ts_ad g 175))] := rfl
  rw [hl0]
  refine ts_aload_n C dL_puddle_0 rfl 3 rfl ?_
  refine ts_iconst C dL_puddle_1 0 rfl ?_
  refine ts_aload_n C dL_puddle_2 rfl 0 rfl ?_
  refine ts_iload_n C dL_puddle_3 rfl 1 rfl ?_
  refine ts_iload_n C dL_puddle_4 rfl 2 rfl ?_
  refine ts_catchVi C hT [ts_v p2, ts_v p3] (mX11_puddle hl) kX11_puddle q_1730 (by decide) shX11 rfl rfl rfl (Nat.le_of_ble_eq_true rfl) ⟨Nat.le_of_ble_eq_true rfl, Nat.le_of_ble_eq_true rfl⟩ ⟨Nat.le_of_ble_eq_true rfl, Nat.le_of_ble_eq_true rfl⟩ dL_puddle_5 ?_ (fun r2 M1 => ?_)
  · rintro E M3 ⟨rfl, h⟩
    refine ⟨13, ⟨[], [], 0, 10, 44, rfl, by decide, by decide, by decide, q_1453, qc_IndexOutOfBoundsException, fun _ h => absurd h List.not_mem_nil⟩, fun q4 => ?_⟩
    revert h
    refine ts_astore C dL_puddle_13 (by decide) (lv' := [(4, .ref q4), (0, .ref (ts_ad g 154)), (1, ts_v p2), (2, ts_v p3), (3, .ref (ts_ad g 175))]) rfl ?_
    refine ts_iconst C dL_puddle_15 1 rfl ?_
    exact ts_ireti C (Nat.le_of_ble_eq_true rfl) (Nat.le_of_ble_eq_true rfl) dL_puddle_16
  refine ts_i2l C dL_puddle_8 ?_
  refine ts_lastc C (by decide) shG175 tw_0 (by decide) dL_puddle_9 (fun M5 => ?_)
  refine ts_goto C 17 dL_puddle_10 rfl ?_
  refine ts_iconst C dL_puddle_17 0 rfl ?_
  exact ts_ireti C (Nat.le_of_ble_eq_true rfl) (Nat.le_of_ble_eq_true rfl) dL_puddle_18
def wL_puddleByGroups (p2 : Int) (p3 : Int) (Q : Int → ts_M → Prop) (M : ts_M) : Prop :=
  (wX11_puddleByGroups p2 p3 (fun r2 M1 => (∀ M5, M5 = ts_sl M1 175 0 (ts_L r2) → Q 0 M5)) (fun E M3 => (E = "java/lang/IndexOutOfBoundsException" ∧ Q 1 M3)) M)
set_option maxRecDepth 100000 in
set_option maxHeartbeats 4000000 in
theorem mL_puddleByGroups {l : Launch} {g : ts_W} (hl : l.stackTraces = false) {p2 : Int} {p3 : Int} {Q : Int → ts_M → Prop} {M : ts_M} : wL_puddleByGroups p2 p3 Q M → ts_ConW l g yL_puddleByGroups cL_puddleByGroups 5 (some .int) [(0, 10, 13, 44)] 8 1 6 [.ref (ts_ad g 154), ts_v p2, ts_v p3, .ref (ts_ad g 175)] M (ts_Ri Q) := by
  intro h0
  refine ts_ConW.of hl (by decide) (Nat.le_of_ble_eq_true rfl) ?_
  intro p e s m args below meth c hT C
  revert h0
  unfold wL_puddleByGroups
  have hl0 : lv_args 0 [.ref (ts_ad g 154), ts_v p2, ts_v p3, .ref (ts_ad g 175)] = [(0, .ref (ts_ad g 154)), (1, ts_v p2), (2, ts_v p3), (3, .ref (ts_ad g 175))] := rfl
  rw [hl0]
  refine ts_aload_n C dL_puddleByGroups_0 rfl 3 rfl ?_
  refine ts_iconst C dL_puddleByGroups_1 0 rfl ?_
  refine ts_aload_n C dL_puddleByGroups_2 rfl 0 rfl ?_
  refine ts_iload_n C dL_puddleByGroups_3 rfl 1 rfl ?_
  refine ts_iload_n C dL_puddleByGroups_4 rfl 2 rfl ?_
  refine ts_catchVi C hT [ts_v p2, ts_v p3] (mX11_puddleByGroups hl) kX11_puddleByGroups q_1739 (by decide) shX11 rfl rfl rfl (Nat.le_of_ble_eq_true rfl) ⟨Nat.le_of_ble_eq_true rfl, Nat.le_of_ble_eq_true rfl⟩ ⟨Nat.le_of_ble_eq_true rfl, Nat.le_of_ble_eq_true rfl⟩ dL_puddleByGroups_5 ?_ (fun r2 M1 => ?_)
  · rintro E M3 ⟨rfl, h⟩
    refine ⟨13, ⟨[], [], 0, 10, 44, rfl, by decide, by decide, by decide, q_1453, qc_IndexOutOfBoundsException, fun _ h => absurd h List.not_mem_nil⟩, fun q4 => ?_⟩
    revert h
    refine ts_astore C dL_puddleByGroups_13 (by decide) (lv' := [(4, .ref q4), (0, .ref (ts_ad g 154)), (1, ts_v p2), (2, ts_v p3), (3, .ref (ts_ad g 175))]) rfl ?_
    refine ts_iconst C dL_puddleByGroups_15 1 rfl ?_
    exact ts_ireti C (Nat.le_of_ble_eq_true rfl) (Nat.le_of_ble_eq_true rfl) dL_puddleByGroups_16
  refine ts_i2l C dL_puddleByGroups_8 ?_
  refine ts_lastc C (by decide) shG175 tw_0 (by decide) dL_puddleByGroups_9 (fun M5 => ?_)
  refine ts_goto C 17 dL_puddleByGroups_10 rfl ?_
  refine ts_iconst C dL_puddleByGroups_17 0 rfl ?_
  exact ts_ireti C (Nat.le_of_ble_eq_true rfl) (Nat.le_of_ble_eq_true rfl) dL_puddleByGroups_18
def wL_spoonBySugar (p2 : Int) (Q : Int → ts_M → Prop) (M : ts_M) : Prop :=
  (wX11_spoonBySugar p2 (fun r2 M1 => (∀ M5, M5 = ts_sl M1 175 0 (ts_L r2) → Q 0 M5)) (fun E M3 => (E = "java/util/NoSuchElementException" ∧ Q 1 M3)) M)
set_option maxRecDepth 100000 in
set_option maxHeartbeats 4000000 in
theorem mL_spoonBySugar {l : Launch} {g : ts_W} (hl : l.stackTraces = false) {p2 : Int} {Q : Int → ts_M → Prop} {M : ts_M} : wL_spoonBySugar p2 Q M → ts_ConW l g yL_spoonBySugar cL_spoonBySugar 4 (some .int) [(0, 9, 12, 24)] 7 1 6 [.ref (ts_ad g 154), ts_v p2, .ref (ts_ad g 175)] M (ts_Ri Q) := by
  intro h0
  refine ts_ConW.of hl (by decide) (Nat.le_of_ble_eq_true rfl) ?_
  intro p e s m args below meth c hT C
  revert h0
  unfold wL_spoonBySugar
  have hl0 : lv_args 0 [.ref (ts_ad g 154), ts_v p2, .ref (ts_ad g 175)] = [(0, .ref (ts_ad g 154)), (1, ts_v p2), (2, .ref (ts_ad g 175))] := rfl
  rw [hl0]
  refine ts_aload_n C dL_spoonBySugar_0 rfl 2 rfl ?_
  refine ts_iconst C dL_spoonBySugar_1 0 rfl ?_
  refine ts_aload_n C dL_spoonBySugar_2 rfl 0 rfl ?_
  refine ts_iload_n C dL_spoonBySugar_3 rfl 1 rfl ?_
  refine ts_catchVi C hT [ts_v p2] (mX11_spoonBySugar hl) kX11_spoonBySugar q_1748 (by decide) shX11 rfl rfl rfl (Nat.le_of_ble_eq_true rfl) ⟨Nat.le_of_ble_eq_true rfl, Nat.le_of_ble_eq_true rfl⟩ ⟨Nat.le_of_ble_eq_true rfl, Nat.le_of_ble_eq_true rfl⟩ dL_spoonBySugar_4 ?_ (fun r2 M1 => ?_)
  · rintro E M3 ⟨rfl, h⟩
    refine ⟨12, ⟨[], [], 0, 9, 24, rfl, by decide, by decide, by decide, q_1406, qc_NoSuchElementException, fun _ h => absurd h List.not_mem_nil⟩, fun q4 => ?_⟩
    revert h
    refine ts_astore_n C dL_spoonBySugar_12 rfl (by decide) (lv' := [(3, .ref q4), (0, .ref (ts_ad g 154)), (1, ts_v p2), (2, .ref (ts_ad g 175))]) rfl ?_
    refine ts_iconst C dL_spoonBySugar_13 1 rfl ?_
    exact ts_ireti C (Nat.le_of_ble_eq_true rfl) (Nat.le_of_ble_eq_true rfl) dL_spoonBySugar_14
  refine ts_i2l C dL_spoonBySugar_7 ?_
  refine ts_lastc C (by decide) shG175 tw_0 (by decide) dL_spoonBySugar_8 (fun M5 => ?_)
  refine ts_goto C 15 dL_spoonBySugar_9 rfl ?_
  refine ts_iconst C dL_spoonBySugar_15 0 rfl ?_
  exact ts_ireti C (Nat.le_of_ble_eq_true rfl) (Nat.le_of_ble_eq_true rfl) dL_spoonBySugar_16
def wL_minute (p2 : Int) (Q : Int → ts_M → Prop) (M : ts_M) : Prop :=
  (wX11_minute p2 (fun r2 M1 => (∀ M5, M5 = ts_sl M1 175 0 (ts_L r2) → Q 0 M5)) (fun E M3 => (E = "java/util/NoSuchElementException" ∧ Q 1 M3)) M)
set_option maxRecDepth 100000 in
set_option maxHeartbeats 4000000 in
theorem mL_minute {l : Launch} {g : ts_W} (hl : l.stackTraces = false) {p2 : Int} {Q : Int → ts_M → Prop} {M : ts_M} : wL_minute p2 Q M → ts_ConW l g yL_minute cL_minute 4 (some .int) [(0, 9, 12, 24)] 7 1 6 [.ref (ts_ad g 154), ts_v p2, .ref (ts_ad g 175)] M (ts_Ri Q) := by
  intro h0
  refine ts_ConW.of hl (by decide) (Nat.le_of_ble_eq_true rfl) ?_
  intro p e s m args below meth c hT C
  revert h0
  unfold wL_minute
  have hl0 : lv_args 0 [.ref (ts_ad g 154), ts_v p2, .ref (ts_ad g 175)] = [(0, .ref (ts_ad g 154)), (1, ts_v p2), (2, .ref (ts_ad g 175))] := rfl
  rw [hl0]
  refine ts_aload_n C dL_minute_0 rfl 2 rfl ?_
  refine ts_iconst C dL_minute_1 0 rfl ?_
  refine ts_aload_n C dL_minute_2 rfl 0 rfl ?_
  refine ts_iload_n C dL_minute_3 rfl 1 rfl ?_
  refine ts_catchVi C hT [ts_v p2] (mX11_minute hl) kX11_minute q_1764 (by decide) shX11 rfl rfl rfl (Nat.le_of_ble_eq_true rfl) ⟨Nat.le_of_ble_eq_true rfl, Nat.le_of_ble_eq_true rfl⟩ ⟨Nat.le_of_ble_eq_true rfl, Nat.le_of_ble_eq_true rfl⟩ dL_minute_4 ?_ (fun r2 M1 => ?_)
  · rintro E M3 ⟨rfl, h⟩
    refine ⟨12, ⟨[], [], 0, 9, 24, rfl, by decide, by decide, by decide, q_1406, qc_NoSuchElementException, fun _ h => absurd h List.not_mem_nil⟩, fun q4 => ?_⟩
    revert h
    refine ts_astore_n C dL_minute_12 rfl (by decide) (lv' := [(3, .ref q4), (0, .ref (ts_ad g 154)), (1, ts_v p2), (2, .ref (ts_ad g 175))]) rfl ?_
    refine ts_iconst C dL_minute_13 1 rfl ?_
    exact ts_ireti C (Nat.le_of_ble_eq_true rfl) (Nat.le_of_ble_eq_true rfl) dL_minute_14
  refine ts_i2l C dL_minute_7 ?_
  refine ts_lastc C (by decide) shG175 tw_0 (by decide) dL_minute_8 (fun M5 => ?_)
  refine ts_goto C 15 dL_minute_9 rfl ?_
  refine ts_iconst C dL_minute_15 0 rfl ?_
  exact ts_ireti C (Nat.le_of_ble_eq_true rfl) (Nat.le_of_ble_eq_true rfl) dL_minute_16
def wL_meanStance (Q : Int → ts_M → Prop) (M : ts_M) : Prop :=
  (wX11_meanStance  (fun r2 M1 => (∀ M5, M5 = ts_sd M1 176 0 r2 → Q 0 M5)) (fun E M3 => (E = "java/lang/ArithmeticException" ∧ Q 1 M3)) M)
set_option maxRecDepth 100000 in
set_option maxHeartbeats 4000000 in
theorem mL_meanStance {l : Launch} {g : ts_W} (hl : l.stackTraces = false) {Q : Int → ts_M → Prop} {M : ts_M} : wL_meanStance Q M → ts_ConW l g yL_meanStance cL_meanStance 3 (some .int) [(0, 7, 10, 134)] 7 1 6 [.ref (ts_ad g 154), .ref (ts_ad g 176)] M (ts_Ri Q) := by
  intro h0
  refine ts_ConW.of hl (by decide) (Nat.le_of_ble_eq_true rfl) ?_
  intro p e s m args below meth c hT C
  revert h0
  unfold wL_meanStance
  have hl0 : lv_args 0 [.ref (ts_ad g 154), .ref (ts_ad g 176)] = [(0, .ref (ts_ad g 154)), (1, .ref (ts_ad g 176))] := rfl
  rw [hl0]
  refine ts_aload_n C dL_meanStance_0 rfl 1 rfl ?_
  refine ts_iconst C dL_meanStance_1 0 rfl ?_
  refine ts_aload_n C dL_meanStance_2 rfl 0 rfl ?_
  refine ts_catchVd C hT [] (mX11_meanStance hl) kX11_meanStance q_1794 (by decide) shX11 rfl rfl rfl (Nat.le_of_ble_eq_true rfl) ⟨Nat.le_of_ble_eq_true rfl, Nat.le_of_ble_eq_true rfl⟩ ⟨Nat.le_of_ble_eq_true rfl, Nat.le_of_ble_eq_true rfl⟩ dL_meanStance_3 ?_ (fun r2 M1 => ?_)
  · rintro E M3 ⟨rfl, h⟩
    refine ⟨10, ⟨[], [], 0, 7, 134, rfl, by decide, by decide, by decide, q_1780, qc_ArithmeticException, fun _ h => absurd h List.not_mem_nil⟩, fun q4 => ?_⟩
    revert h
    refine ts_astore_n C dL_meanStance_10 rfl (by decide) (lv' := [(2, .ref q4), (0, .ref (ts_ad g 154)), (1, .ref (ts_ad g 176))]) rfl ?_
    refine ts_iconst C dL_meanStance_11 1 rfl ?_
    exact ts_ireti C (Nat.le_of_ble_eq_true rfl) (Nat.le_of_ble_eq_true rfl) dL_meanStance_12
  refine ts_dastc C (by decide) shG176 tw_0 (by decide) dL_meanStance_6 (fun M5 => ?_)
  refine ts_goto C 13 dL_meanStance_7 rfl ?_
  refine ts_iconst C dL_meanStance_13 0 rfl ?_
  exact ts_ireti C (Nat.le_of_ble_eq_true rfl) (Nat.le_of_ble_eq_true rfl) dL_meanStance_14
def wL_adoptedShare (Q : Int → ts_M → Prop) (M : ts_M) : Prop :=
  (wX11_adoptedShare  (fun r2 M1 => (vf_n64 (FP.f2d r2) ∧ (∀ M5, M5 = ts_sd M1 176 0 (FP.f2d r2) → Q 0 M5))) (fun E M3 => (E = "java/lang/ArithmeticException" ∧ Q 1 M3)) M)
set_option maxRecDepth 100000 in
set_option maxHeartbeats 4000000 in
theorem mL_adoptedShare {l : Launch} {g : ts_W} (hl : l.stackTraces = false) {Q : Int → ts_M → Prop} {M : ts_M} : wL_adoptedShare Q M → ts_ConW l g yL_adoptedShare cL_adoptedShare 3 (some .int) [(0, 8, 11, 134)] 7 1 6 [.ref (ts_ad g 154), .ref (ts_ad g 176)] M (ts_Ri Q) := by
  intro h0
  refine ts_ConW.of hl (by decide) (Nat.le_of_ble_eq_true rfl) ?_
  intro p e s m args below meth c hT C
  revert h0
  unfold wL_adoptedShare
  have hl0 : lv_args 0 [.ref (ts_ad g 154), .ref (ts_ad g 176)] = [(0, .ref (ts_ad g 154)), (1, .ref (ts_ad g 176))] := rfl
  rw [hl0]
  refine ts_aload_n C dL_adoptedShare_0 rfl 1 rfl ?_
  refine ts_iconst C dL_adoptedShare_1 0 rfl ?_
  refine ts_aload_n C dL_adoptedShare_2 rfl 0 rfl ?_
  refine ts_catchVf C hT [] (mX11_adoptedShare hl) kX11_adoptedShare q_1808 (by decide) shX11 rfl rfl rfl (Nat.le_of_ble_eq_true rfl) ⟨Nat.le_of_ble_eq_true rfl, Nat.le_of_ble_eq_true rfl⟩ ⟨Nat.le_of_ble_eq_true rfl, Nat.le_of_ble_eq_true rfl⟩ dL_adoptedShare_3 ?_ (fun r2 M1 => ?_)
  · rintro E M3 ⟨rfl, h⟩
    refine ⟨11, ⟨[], [], 0, 8, 134, rfl, by decide, by decide, by decide, q_1780, qc_ArithmeticException, fun _ h => absurd h List.not_mem_nil⟩, fun q4 => ?_⟩
    revert h
    refine ts_astore_n C dL_adoptedShare_11 rfl (by decide) (lv' := [(2, .ref q4), (0, .ref (ts_ad g 154)), (1, .ref (ts_ad g 176))]) rfl ?_
    refine ts_iconst C dL_adoptedShare_12 1 rfl ?_
    exact ts_ireti C (Nat.le_of_ble_eq_true rfl) (Nat.le_of_ble_eq_true rfl) dL_adoptedShare_13
  refine ts_f2d C dL_adoptedShare_6 ?_
  refine ts_dastc C (by decide) shG176 tw_0 (by decide) dL_adoptedShare_7 (fun M5 => ?_)
  refine ts_goto C 14 dL_adoptedShare_8 rfl ?_
  refine ts_iconst C dL_adoptedShare_14 0 rfl ?_
  exact ts_ireti C (Nat.le_of_ble_eq_true rfl) (Nat.le_of_ble_eq_true rfl) dL_adoptedShare_15
def wL_outputAt (p2 : Int) (Q : Int → ts_M → Prop) (M : ts_M) : Prop :=
  (wX11_outputAt p2 (fun r2 M1 => (∀ M5, M5 = ts_sl M1 175 0 (ts_L r2) → Q 0 M5)) (fun E M3 => (E = "java/lang/IndexOutOfBoundsException" ∧ Q 1 M3)) M)
set_option maxRecDepth 100000 in
set_option maxHeartbeats 4000000 in
theorem mL_outputAt {l : Launch} {g : ts_W} (hl : l.stackTraces = false) {p2 : Int} {Q : Int → ts_M → Prop} {M : ts_M} : wL_outputAt p2 Q M → ts_ConW l g yL_outputAt cL_outputAt 4 (some .int) [(0, 9, 12, 44)] 7 1 6 [.ref (ts_ad g 154), ts_v p2, .ref (ts_ad g 175)] M (ts_Ri Q) := by
  intro h0
  refine ts_ConW.of hl (by decide) (Nat.le_of_ble_eq_true rfl) ?_
  intro p e s m args below meth c hT C
  revert h0
  unfold wL_outputAt
  have hl0 : lv_args 0 [.ref (ts_ad g 154), ts_v p2, .ref (ts_ad g 175)] = [(0, .ref (ts_ad g 154)), (1, ts_v p2), (2, .ref (ts_ad g 175))] := rfl
  rw [hl0]
  refine ts_aload_n C dL_outputAt_0 rfl 2 rfl ?_
  refine ts_iconst C dL_outputAt_1 0 rfl ?_
  refine ts_aload_n C dL_outputAt_2 rfl 0 rfl ?_
  refine ts_iload_n C dL_outputAt_3 rfl 1 rfl ?_
  refine ts_catchVi C hT [ts_v p2] (mX11_outputAt hl) kX11_outputAt q_1816 (by decide) shX11 rfl rfl rfl (Nat.le_of_ble_eq_true rfl) ⟨Nat.le_of_ble_eq_true rfl, Nat.le_of_ble_eq_true rfl⟩ ⟨Nat.le_of_ble_eq_true rfl, Nat.le_of_ble_eq_true rfl⟩ dL_outputAt_4 ?_ (fun r2 M1 => ?_)
  · rintro E M3 ⟨rfl, h⟩
    refine ⟨12, ⟨[], [], 0, 9, 44, rfl, by decide, by decide, by decide, q_1453, qc_IndexOutOfBoundsException, fun _ h => absurd h List.not_mem_nil⟩, fun q4 => ?_⟩
    revert h
    refine ts_astore_n C dL_outputAt_12 rfl (by decide) (lv' := [(3, .ref q4), (0, .ref (ts_ad g 154)), (1, ts_v p2), (2, .ref (ts_ad g 175))]) rfl ?_
    refine ts_iconst C dL_outputAt_13 1 rfl ?_
    exact ts_ireti C (Nat.le_of_ble_eq_true rfl) (Nat.le_of_ble_eq_true rfl) dL_outputAt_14
  refine ts_i2l C dL_outputAt_7 ?_
  refine ts_lastc C (by decide) shG175 tw_0 (by decide) dL_outputAt_8 (fun M5 => ?_)
  refine ts_goto C 15 dL_outputAt_9 rfl ?_
  refine ts_iconst C dL_outputAt_15 0 rfl ?_
  exact ts_ireti C (Nat.le_of_ble_eq_true rfl) (Nat.le_of_ble_eq_true rfl) dL_outputAt_16
def wL_type (p2 : Int) (Q : Int → ts_M → Prop) (M : ts_M) : Prop :=
  (wX11_type p2 (fun r2 M1 => (∀ M5, M5 = ts_sl M1 175 0 (ts_L r2) → Q 0 M5)) (fun E M3 => (E = "java/lang/IllegalArgumentException" ∧ Q 1 M3) ∨ (E = "java/lang/IllegalStateException" ∧ Q 2 M3)) M)
set_option maxRecDepth 100000 in
set_option maxHeartbeats 4000000 in
theorem mL_type {l : Launch} {g : ts_W} (hl : l.stackTraces = false) {p2 : Int} {Q : Int → ts_M → Prop} {M : ts_M} : wL_type p2 Q M → ts_ConW l g yL_type cL_type 4 (some .int) [(0, 9, 12, 13), (0, 9, 15, 15)] 7 1 6 [.ref (ts_ad g 154), ts_v p2, .ref (ts_ad g 175)] M (ts_Ri Q) := by
  intro h0
  refine ts_ConW.of hl (by decide) (Nat.le_of_ble_eq_true rfl) ?_
  intro p e s m args below meth c hT C
  revert h0
  unfold wL_type
  have hl0 : lv_args 0 [.ref (ts_ad g 154), ts_v p2, .ref (ts_ad g 175)] = [(0, .ref (ts_ad g 154)), (1, ts_v p2), (2, .ref (ts_ad g 175))] := rfl
  rw [hl0]
  refine ts_aload_n C dL_type_0 rfl 2 rfl ?_
  refine ts_iconst C dL_type_1 0 rfl ?_
  refine ts_aload_n C dL_type_2 rfl 0 rfl ?_
  refine ts_iload_n C dL_type_3 rfl 1 rfl ?_
  refine ts_catchVi C hT [ts_v p2] (mX11_type hl) kX11_type q_1834 (by decide) shX11 rfl rfl rfl (Nat.le_of_ble_eq_true rfl) ⟨Nat.le_of_ble_eq_true rfl, Nat.le_of_ble_eq_true rfl⟩ ⟨Nat.le_of_ble_eq_true rfl, Nat.le_of_ble_eq_true rfl⟩ dL_type_4 ?_ (fun r2 M1 => ?_)
  · rintro E M3 (⟨rfl, h⟩ | ⟨rfl, h⟩)
    · refine ⟨12, ⟨[], [(0, 9, 15, 15)], 0, 9, 13, rfl, by decide, by decide, by decide, q_1089, qc_IllegalArgumentException, fun _ h => absurd h List.not_mem_nil⟩, fun q4 => ?_⟩
      revert h
      refine ts_astore_n C dL_type_12 rfl (by decide) (lv' := [(3, .ref q4), (0, .ref (ts_ad g 154)), (1, ts_v p2), (2, .ref (ts_ad g 175))]) rfl ?_
      refine ts_iconst C dL_type_13 1 rfl ?_
      exact ts_ireti C (Nat.le_of_ble_eq_true rfl) (Nat.le_of_ble_eq_true rfl) dL_type_14
    · refine ⟨15, ⟨[(0, 9, 12, 13)], [], 0, 9, 15, rfl, by decide, by decide, by decide, q_1090, qc_IllegalStateException, List.forall_mem_cons.mpr ⟨⟨by decide, "java/lang/IllegalArgumentException", q_1089, by decide⟩, fun _ h => absurd h List.not_mem_nil⟩⟩, fun q4 => ?_⟩
      revert h
      refine ts_astore_n C dL_type_15 rfl (by decide) (lv' := [(3, .ref q4), (0, .ref (ts_ad g 154)), (1, ts_v p2), (2, .ref (ts_ad g 175))]) rfl ?_
      refine ts_iconst C dL_type_16 2 rfl ?_
      exact ts_ireti C (Nat.le_of_ble_eq_true rfl) (Nat.le_of_ble_eq_true rfl) dL_type_17
  refine ts_i2l C dL_type_7 ?_
  refine ts_lastc C (by decide) shG175 tw_0 (by decide) dL_type_8 (fun M5 => ?_)
  refine ts_goto C 18 dL_type_9 rfl ?_
  refine ts_iconst C dL_type_18 0 rfl ?_
  exact ts_ireti C (Nat.le_of_ble_eq_true rfl) (Nat.le_of_ble_eq_true rfl) dL_type_19
def wL_runScript (Q : Int → ts_M → Prop) (M : ts_M) : Prop :=
  (wX11_runScript  (fun r2 M1 => (∀ M5, M5 = ts_sl M1 175 0 (ts_L r2) → Q 0 M5)) (fun E M3 => (E = "java/lang/IllegalArgumentException" ∧ Q 1 M3) ∨ (E = "java/lang/IllegalStateException" ∧ Q 2 M3)) M)
set_option maxRecDepth 100000 in
set_option maxHeartbeats 4000000 in
theorem mL_runScript {l : Launch} {g : ts_W} (hl : l.stackTraces = false) {Q : Int → ts_M → Prop} {M : ts_M} : wL_runScript Q M → ts_ConW l g yL_runScript cL_runScript 3 (some .int) [(0, 8, 11, 13), (0, 8, 14, 15)] 8 1 6 [.ref (ts_ad g 154), .ref (ts_ad g 175)] M (ts_Ri Q) := by
  intro h0
  refine ts_ConW.of hl (by decide) (Nat.le_of_ble_eq_true rfl) ?_
  intro p e s m args below meth c hT C
  revert h0
  unfold wL_runScript
  have hl0 : lv_args 0 [.ref (ts_ad g 154), .ref (ts_ad g 175)] = [(0, .ref (ts_ad g 154)), (1, .ref (ts_ad g 175))] := rfl
  rw [hl0]
  refine ts_aload_n C dL_runScript_0 rfl 1 rfl ?_
  refine ts_iconst C dL_runScript_1 0 rfl ?_
  refine ts_aload_n C dL_runScript_2 rfl 0 rfl ?_
  refine ts_catchVi C hT [] (mX11_runScript hl) kX11_runScript q_1851 (by decide) shX11 rfl rfl rfl (Nat.le_of_ble_eq_true rfl) ⟨Nat.le_of_ble_eq_true rfl, Nat.le_of_ble_eq_true rfl⟩ ⟨Nat.le_of_ble_eq_true rfl, Nat.le_of_ble_eq_true rfl⟩ dL_runScript_3 ?_ (fun r2 M1 => ?_)
  · rintro E M3 (⟨rfl, h⟩ | ⟨rfl, h⟩)
    · refine ⟨11, ⟨[], [(0, 8, 14, 15)], 0, 8, 13, rfl, by decide, by decide, by decide, q_1089, qc_IllegalArgumentException, fun _ h => absurd h List.not_mem_nil⟩, fun q4 => ?_⟩
      revert h
      refine ts_astore_n C dL_runScript_11 rfl (by decide) (lv' := [(2, .ref q4), (0, .ref (ts_ad g 154)), (1, .ref (ts_ad g 175))]) rfl ?_
      refine ts_iconst C dL_runScript_12 1 rfl ?_
      exact ts_ireti C (Nat.le_of_ble_eq_true rfl) (Nat.le_of_ble_eq_true rfl) dL_runScript_13
    · refine ⟨14, ⟨[(0, 8, 11, 13)], [], 0, 8, 15, rfl, by decide, by decide, by decide, q_1090, qc_IllegalStateException, List.forall_mem_cons.mpr ⟨⟨by decide, "java/lang/IllegalArgumentException", q_1089, by decide⟩, fun _ h => absurd h List.not_mem_nil⟩⟩, fun q4 => ?_⟩
      revert h
      refine ts_astore_n C dL_runScript_14 rfl (by decide) (lv' := [(2, .ref q4), (0, .ref (ts_ad g 154)), (1, .ref (ts_ad g 175))]) rfl ?_
      refine ts_iconst C dL_runScript_15 2 rfl ?_
      exact ts_ireti C (Nat.le_of_ble_eq_true rfl) (Nat.le_of_ble_eq_true rfl) dL_runScript_16
  refine ts_i2l C dL_runScript_6 ?_
  refine ts_lastc C (by decide) shG175 tw_0 (by decide) dL_runScript_7 (fun M5 => ?_)
  refine ts_goto C 17 dL_runScript_8 rfl ?_
  refine ts_iconst C dL_runScript_17 0 rfl ?_
  exact ts_ireti C (Nat.le_of_ble_eq_true rfl) (Nat.le_of_ble_eq_true rfl) dL_runScript_18
def wL_errorPosition (Q : Int → ts_M → Prop) (M : ts_M) : Prop :=
  (wX11_errorPosition  (fun r2 M1 => (∀ M5, M5 = ts_sl M1 175 0 (ts_L r2) → Q 0 M5)) (fun E M3 => (E = "java/util/NoSuchElementException" ∧ Q 1 M3)) M)
set_option maxRecDepth 100000 in
set_option maxHeartbeats 4000000 in
theorem mL_errorPosition {l : Launch} {g : ts_W} (hl : l.stackTraces = false) {Q : Int → ts_M → Prop} {M : ts_M} : wL_errorPosition Q M → ts_ConW l g yL_errorPosition cL_errorPosition 3 (some .int) [(0, 8, 11, 24)] 7 1 6 [.ref (ts_ad g 154), .ref (ts_ad g 175)] M (ts_Ri Q) := by
  intro h0
  refine ts_ConW.of hl (by decide) (Nat.le_of_ble_eq_true rfl) ?_
  intro p e s m args below meth c hT C
  revert h0
  unfold wL_errorPosition
  have hl0 : lv_args 0 [.ref (ts_ad g 154), .ref (ts_ad g 175)] = [(0, .ref (ts_ad g 154)), (1, .ref (ts_ad g 175))] := rfl
  rw [hl0]
  refine ts_aload_n C dL_errorPosition_0 rfl 1 rfl ?_
  refine ts_iconst C dL_errorPosition_1 0 rfl ?_
  refine ts_aload_n C dL_errorPosition_2 rfl 0 rfl ?_
  refine ts_catchVi C hT [] (mX11_errorPosition hl) kX11_errorPosition q_1915 (by decide) shX11 rfl rfl rfl (Nat.le_of_ble_eq_true rfl) ⟨Nat.le_of_ble_eq_true rfl, Nat.le_of_ble_eq_true rfl⟩ ⟨Nat.le_of_ble_eq_true rfl, Nat.le_of_ble_eq_true rfl⟩ dL_errorPosition_3 ?_ (fun r2 M1 => ?_)
  · rintro E M3 ⟨rfl, h⟩
    refine ⟨11, ⟨[], [], 0, 8, 24, rfl, by decide, by decide, by decide, q_1406, qc_NoSuchElementException, fun _ h => absurd h List.not_mem_nil⟩, fun q4 => ?_⟩
    revert h
    refine ts_astore_n C dL_errorPosition_11 rfl (by decide) (lv' := [(2, .ref q4), (0, .ref (ts_ad g 154)), (1, .ref (ts_ad g 175))]) rfl ?_
    refine ts_iconst C dL_errorPosition_12 1 rfl ?_
    exact ts_ireti C (Nat.le_of_ble_eq_true rfl) (Nat.le_of_ble_eq_true rfl) dL_errorPosition_13
  refine ts_i2l C dL_errorPosition_6 ?_
  refine ts_lastc C (by decide) shG175 tw_0 (by decide) dL_errorPosition_7 (fun M5 => ?_)
  refine ts_goto C 14 dL_errorPosition_8 rfl ?_
  refine ts_iconst C dL_errorPosition_14 0 rfl ?_
  exact ts_ireti C (Nat.le_of_ble_eq_true rfl) (Nat.le_of_ble_eq_true rfl) dL_errorPosition_15
def wL_failedCommand (Q : Int → ts_M → Prop) (M : ts_M) : Prop :=
  (wX11_failedCommand  (fun r2 M1 => (∀ M5, M5 = ts_sl M1 175 0 (ts_L r2) → Q 0 M5)) (fun E M3 => (E = "java/util/NoSuchElementException" ∧ Q 1 M3)) M)
set_option maxRecDepth 100000 in
set_option maxHeartbeats 4000000 in
theorem mL_failedCommand {l : Launch} {g : ts_W} (hl : l.stackTraces = false) {Q : Int → ts_M → Prop} {M : ts_M} : wL_failedCommand Q M → ts_ConW l g yL_failedCommand cL_failedCommand 3 (some .int) [(0, 8, 11, 24)] 7 1 6 [.ref (ts_ad g 154), .ref (ts_ad g 175)] M (ts_Ri Q) := by
  intro h0
  refine ts_ConW.of hl (by decide) (Nat.le_of_ble_eq_true rfl) ?_
  intro p e s m args below meth c hT C
  revert h0
  unfold wL_failedCommand
  have hl0 : lv_args 0 [.ref (ts_ad g 154), .ref (ts_ad g 175)] = [(0, .ref (ts_ad g 154)), (1, .ref (ts_ad g 175))] := rfl
  rw [hl0]
  refine ts_aload_n C dL_failedCommand_0 rfl 1 rfl ?_
  refine ts_iconst C dL_failedCommand_1 0 rfl ?_
  refine ts_aload_n C dL_failedCommand_2 rfl 0 rfl ?_
  refine ts_catchVi C hT [] (mX11_failedCommand hl) kX11_failedCommand q_1923 (by decide) shX11 rfl rfl rfl (Nat.le_of_ble_eq_true rfl) ⟨Nat.le_of_ble_eq_true rfl, Nat.le_of_ble_eq_true rfl⟩ ⟨Nat.le_of_ble_eq_true rfl, Nat.le_of_ble_eq_true rfl⟩ dL_failedCommand_3 ?_ (fun r2 M1 => ?_)
  · rintro E M3 ⟨rfl, h⟩
    refine ⟨11, ⟨[], [], 0, 8, 24, rfl, by decide, by decide, by decide, q_1406, qc_NoSuchElementException, fun _ h => absurd h List.not_mem_nil⟩, fun q4 => ?_⟩
    revert h
    refine ts_astore_n C dL_failedCommand_11 rfl (by decide) (lv' := [(2, .ref q4), (0, .ref (ts_ad g 154)), (1, .ref (ts_ad g 175))]) rfl ?_
    refine ts_iconst C dL_failedCommand_12 1 rfl ?_
    exact ts_ireti C (Nat.le_of_ble_eq_true rfl) (Nat.le_of_ble_eq_true rfl) dL_failedCommand_13
  refine ts_i2l C dL_failedCommand_6 ?_
  refine ts_lastc C (by decide) shG175 tw_0 (by decide) dL_failedCommand_7 (fun M5 => ?_)
  refine ts_goto C 14 dL_failedCommand_8 rfl ?_
  refine ts_iconst C dL_failedCommand_14 0 rfl ?_
  exact ts_ireti C (Nat.le_of_ble_eq_true rfl) (Nat.le_of_ble_eq_true rfl) dL_failedCommand_15
def wL_undo (Q : Int → ts_M → Prop) (M : ts_M) : Prop :=
  (wX11_undo  (fun r2 M1 => (∀ M5, M5 = ts_sl M1 175 0 (ts_L r2) → Q 0 M5)) (fun E M3 => (E = "java/lang/IllegalStateException" ∧ Q 1 M3)) M)
set_option maxRecDepth 100000 in
set_option maxHeartbeats 4000000 in
theorem mL_undo {l : Launch} {g : ts_W} (hl : l.stackTraces = false) {Q : Int → ts_M → Prop} {M : ts_M} : wL_undo Q M → ts_ConW l g yL_undo cL_undo 3 (some .int) [(0, 8, 11, 15)] 7 1 6 [.ref (ts_ad g 154), .ref (ts_ad g 175)] M (ts_Ri Q) := by
  intro h0
  refine ts_ConW.of hl (by decide) (Nat.le_of_ble_eq_true rfl) ?_
  intro p e s m args below meth c hT C
  revert h0
  unfold wL_undo
  have hl0 : lv_args 0 [.ref (ts_ad g 154), .ref (ts_ad g 175)] = [(0, .ref (ts_ad g 154)), (1, .ref (ts_ad g 175))] := rfl
  rw [hl0]
  refine ts_aload_n C dL_undo_0 rfl 1 rfl ?_
  refine ts_iconst C dL_undo_1 0 rfl ?_
  refine ts_aload_n C dL_undo_2 rfl 0 rfl ?_
  refine ts_catchVi C hT [] (mX11_undo hl) kX11_undo q_1931 (by decide) shX11 rfl rfl rfl (Nat.le_of_ble_eq_true rfl) ⟨Nat.le_of_ble_eq_true rfl, Nat.le_of_ble_eq_true rfl⟩ ⟨Nat.le_of_ble_eq_true rfl, Nat.le_of_ble_eq_true rfl⟩ dL_undo_3 ?_ (fun r2 M1 => ?_)
  · rintro E M3 ⟨rfl, h⟩
    refine ⟨11, ⟨[], [], 0, 8, 15, rfl, by decide, by decide, by decide, q_1090, qc_IllegalStateException, fun _ h => absurd h List.not_mem_nil⟩, fun q4 => ?_⟩
    revert h
    refine ts_astore_n C dL_undo_11 rfl (by decide) (lv' := [(2, .ref q4), (0, .ref (ts_ad g 154)), (1, .ref (ts_ad g 175))]) rfl ?_
    refine ts_iconst C dL_undo_12 1 rfl ?_
    exact ts_ireti C (Nat.le_of_ble_eq_true rfl) (Nat.le_of_ble_eq_true rfl) dL_undo_13
  refine ts_i2l C dL_undo_6 ?_
  refine ts_lastc C (by decide) shG175 tw_0 (by decide) dL_undo_7 (fun M5 => ?_)
  refine ts_goto C 14 dL_undo_8 rfl ?_
  refine ts_iconst C dL_undo_14 0 rfl ?_
  exact ts_ireti C (Nat.le_of_ble_eq_true rfl) (Nat.le_of_ble_eq_true rfl) dL_undo_15
def wL_restore (Q : Int → ts_M → Prop) (M : ts_M) : Prop :=
  (wX11_restore  (fun r2 M1 => (∀ M5, M5 = ts_sl M1 175 0 (ts_L r2) → Q 0 M5)) (fun E M3 => (E = "java/lang/IllegalStateException" ∧ Q 1 M3)) M)
set_option maxRecDepth 100000 in
set_option maxHeartbeats 4000000 in
theorem mL_restore {l : Launch} {g : ts_W} (hl : l.stackTraces = false) {Q : Int → ts_M → Prop} {M : ts_M} : wL_restore Q M → ts_ConW l g yL_restore cL_restore 3 (some .int) [(0, 8, 11, 15)] 7 1 6 [.ref (ts_ad g 154), .ref (ts_ad g 175)] M (ts_Ri Q) := by
  intro h0
  refine ts_ConW.of hl (by decide) (Nat.le_of_ble_eq_true rfl) ?_
  intro p e s m args below meth c hT C
  revert h0
  unfold wL_restore
  have hl0 : lv_args 0 [.ref (ts_ad g 154), .ref (ts_ad g 175)] = [(0, .ref (ts_ad g 154)), (1, .ref (ts_ad g 175))] := rfl
  rw [hl0]
  refine ts_aload_n C dL_restore_0 rfl 1 rfl ?_
  refine ts_iconst C dL_restore_1 0 rfl ?_
  refine ts_aload_n C dL_restore_2 rfl 0 rfl ?_
  refine ts_catchVi C hT [] (mX11_restore hl) kX11_restore q_1943 (by decide) shX11 rfl rfl rfl (Nat.le_of_ble_eq_true rfl) ⟨Nat.le_of_ble_eq_true rfl, Nat.le_of_ble_eq_true rfl⟩ ⟨Nat.le_of_ble_eq_true rfl, Nat.le_of_ble_eq_true rfl⟩ dL_restore_3 ?_ (fun r2 M1 => ?_)
  · rintro E M3 ⟨rfl, h⟩
    refine ⟨11, ⟨[], [], 0, 8, 15, rfl, by decide, by decide, by decide, q_1090, qc_IllegalStateException, fun _ h => absurd h List.not_mem_nil⟩, fun q4 => ?_⟩
    revert h
    refine ts_astore_n C dL_restore_11 rfl (by decide) (lv' := [(2, .ref q4), (0, .ref (ts_ad g 154)), (1, .ref (ts_ad g 175))]) rfl ?_
    refine ts_iconst C dL_restore_12 1 rfl ?_
    exact ts_ireti C (Nat.le_of_ble_eq_true rfl) (Nat.le_of_ble_eq_true rfl) dL_restore_13
  refine ts_i2l C dL_restore_6 ?_
  refine ts_lastc C (by decide) shG175 tw_0 (by decide) dL_restore_7 (fun M5 => ?_)
  refine ts_goto C 14 dL_restore_8 rfl ?_
  refine ts_iconst C dL_restore_14 0 rfl ?_
  exact ts_ireti C (Nat.le_of_ble_eq_true rfl) (Nat.le_of_ble_eq_true rfl) dL_restore_15
