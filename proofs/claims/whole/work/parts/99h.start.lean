/-- from the law's entry to its end -/
theorem whole_start {p : Program} {e : Env} {s : State} {m : MethodId} {below : List Frame} {meth : Method} {c : Code} (l : Launch) (hflags : l.flags = flags0) {b L : Nat} {xs : Nat → Int32} (hL : L ≤ 2048) (C0 : lw_At p s m meth c b L xs) : W p l e room_1 s m #[Value.ref b] below meth c s.heap [] 0 0 (lw_Z below #[Value.ref b] s) (entryFrame m ([Value.ref b] : List Value).toArray 9) := by
  obtain ⟨hx, hcode, hret, hml, hown, hts, hX, hb, hlocks, hgv⟩ := C0
  have hf : ∀ c ∈ st_fl, c.before #[Value.ref b] s = true := flat_of_before _ hgv
  have hgood : ∀ w ∈ lw_good, w.before #[Value.ref b] s = true := fun w hw => hts w (List.mem_filter.mp hw).1
  obtain ⟨γ, hK, hS9, hM2⟩ := st_K hts
  have hnw := st_nw hts
  have hpv := st_pv hts
  have hnc := st_ncs hf
  have hA0 : ∀ a : Nat, a < s.heap.size → ¬ (fun q : Nat => s.heap.size ≤ q) a := fun a h => Nat.not_le.mpr h
  obtain ⟨sx, hSh, hSt⟩ := st_all (A := fun q : Nat => s.heap.size ≤ q) hts hf hA0
  have hst : l.stackTraces = false := by
    unfold Launch.stackTraces
    rw [hflags]
    decide +kernel
  have C : ts_NC p s m #[Value.ref b] meth c γ (fun q : Nat => s.heap.size ≤ q) cL_law "TeaspoonSalonLaw" 9 ret := ⟨hx, hcode, hml, hown, hgood, hret, hlocks, hK, hnw, ⟨hS9, hM2, (hSh γ id).2.2.2.2.2.2.2.2.1⟩, fun q h => h⟩
  have hl0 := lv_entry [Value.ref b] (n := 9) (show 1 ≤ 9 by decide)
  rw [lg_entry_eq]
  refine law_pre (l := l) (e := e) (below := below) (Q := lw_Z below #[Value.ref b] s) (b0 := b) C ?_ s.heap [] _ (fun k q hq => (by cases hq)) ⟨fun i j q r hq => (by cases hq), fun k q hq => (by cases hq)⟩ va_S.rf hl0
  intro ad1 ad2 ad3 v4 ad4 u4 u5_1 u5_2 u5 u6_1 u6_2 u6_3 u6 u7_1 u7 us um o1 o2 m_v1 m_v2 m_v3 m_v4 m_v5 m_v6 m_v7 m_v8 m_v9 m_v10 H locs ls hP hD hS hl
  have hh : ∀ j : Nat, j < 8 → (fun j => some (ts_ad (st_g γ sx (fun q : Nat => s.heap.size ≤ q) ad1 ad2 ad3 v4 ad4 u4 u5_1 u5_2 u5 u6_1 u6_2 u6_3 u6 u7_1 u7 us um o1 o2 m_v1 m_v2 m_v3 m_v4 m_v5 m_v6 m_v7 m_v8 m_v9 m_v10) (14 * (j + 3)))) j = (fun i => if i < 8 then some (ad4 i 0) else none) j := fun j hj => by
    show some _ = if j < 8 then some (ad4 j 0) else none
    rw [if_pos hj]
    exact congrArg some (st_ah (c := 0) hj (by decide))
  have hP1 : va_P γ.1 vwCl (ts_ws (st_g γ sx (fun q : Nat => s.heap.size ≤ q) ad1 ad2 ad3 v4 ad4 u4 u5_1 u5_2 u5 u6_1 u6_2 u6_3 u6 u7_1 u7 us um o1 o2 m_v1 m_v2 m_v3 m_v4 m_v5 m_v6 m_v7 m_v8 m_v9 m_v10) (st_M u7_1) ++ ts_XB (st_g γ sx (fun q : Nat => s.heap.size ≤ q) ad1 ad2 ad3 v4 ad4 u4 u5_1 u5_2 u5 u6_1 u6_2 u6_3 u6 u7_1 u7 us um o1 o2 m_v1 m_v2 m_v3 m_v4 m_v5 m_v6 m_v7 m_v8 m_v9 m_v10) (st_M u7_1)) H := by
    rw [st_wT]
    exact st_TP hh (st_P_perm st_FT hP)
  have hD1 : va_D (fun q : Nat => s.heap.size ≤ q) (ts_ws (st_g γ sx (fun q : Nat => s.heap.size ≤ q) ad1 ad2 ad3 v4 ad4 u4 u5_1 u5_2 u5 u6_1 u6_2 u6_3 u6 u7_1 u7 us um o1 o2 m_v1 m_v2 m_v3 m_v4 m_v5 m_v6 m_v7 m_v8 m_v9 m_v10) (st_M u7_1) ++ ts_XB (st_g γ sx (fun q : Nat => s.heap.size ≤ q) ad1 ad2 ad3 v4 ad4 u4 u5_1 u5_2 u5 u6_1 u6_2 u6_3 u6 u7_1 u7 us um o1 o2 m_v1 m_v2 m_v3 m_v4 m_v5 m_v6 m_v7 m_v8 m_v9 m_v10) (st_M u7_1)) := by
    rw [st_wT]
    exact st_TD (st_D_perm st_FT hD)
  have C1 : ts_C p l s m #[Value.ref b] meth c (st_g γ sx (fun q : Nat => s.heap.size ≤ q) ad1 ad2 ad3 v4 ad4 u4 u5_1 u5_2 u5 u6_1 u6_2 u6_3 u6 u7_1 u7 us um o1 o2 m_v1 m_v2 m_v3 m_v4 m_v5 m_v6 m_v7 m_v8 m_v9 m_v10) cL_law "TeaspoonSalonLaw" 9 ret := ⟨hx, hcode, hml, hown, hgood, hret, hlocks, hK, ⟨hnw, hSt, hnc, hpv⟩, hSh γ _, fun q h => h, hst⟩
  obtain ⟨n, hn, hlp⟩ := tl_law (L := L) (xs := xs) hL (st_J0 (u := u7_1))
  have V := mL_law (e := e) (below := below) C1 hX hb (hA0 b hb) (Q := fun r _ => ts_w r = 1) (Q0 := lw_Z below #[Value.ref b] s) (fun {pc ck sk lv r M} hdc hck hsk hq X H2 locs2 ls2 hB2 hP2 hD2 hS2 hl2 => by
    have e1 : ts_v r = .int 1 := congrArg Value.int (ts_I_eq.mpr (show ts_w r = ts_w 1 from hq))
    rw [e1]
    refine va_forget (fun q hq2 => hS2.2.2 q hq2) ?_
    refine W.widen hck hsk ?_
    refine W.base ?_
    exact lw_ret (Drawn.sameBut.refl s.drawn lw_cs) hx hcode hret hlocks hdc) n 0 (st_M u7_1) hlp hn
  have V1 := V _ H locs ls ⟨rfl, fun j => ⟨by show (-128 : Int) ≤ 0; decide, by show (0 : Int) < 128; decide⟩⟩ hP1 hD1 hS (lv_sub hl [5, 4, 3, 2, 1, 0] rfl)
  exact W.widen (by omega) (by omega) V1
