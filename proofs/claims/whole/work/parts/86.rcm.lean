/-! ===== the reference reads a command ===== -/
section TZY
variable {i s : Int} {Q : Int → ts_M → Prop} {M m M0 : ts_M}
theorem tz_gY (h : tz_LY M0 i Q) : tz_LY M0 i (fun r m => (ts_w r = 0 ∨ ts_w r = 1) ∧ Q r m) := fun g m' hm => ⟨Or.inr rfl, h g m' hm⟩
theorem tz_gN (h : tz_LN M0 i Q) : tz_LN M0 i (fun r m => (ts_w r = 0 ∨ ts_w r = 1) ∧ Q r m) := fun g m' s A hm => ⟨Or.inl rfl, h g m' s A hm⟩
theorem tm_readsSp (hP : tz_R0 M0) (h0 : 0 ≤ i) (c0 : tz_cr M0 i = 115) (c1 : tz_cr M0 (i + 1) = 112) (hm : tz_RS2 M0 (i + 1 + 1) 115 [] m) (h1 : i + 1 + 1 ≤ M0.1 164 14) (hy : tz_LY M0 i Q) (hn : tz_LN M0 i Q) : wX12_readsSp Q m := by
  simp only [wX12_readsSp, wX12_readsSp_B203, wX12_readsSp_B202, wX12_readsSp_B122, wX12_readsSp_B121, wX12_readsSp_B66, wX12_readsSp_B65, tz_g0, tz_g1, forall_eq]
  refine tm_reads hP hm (by omega) h1 (by decide) (fun c2 m2 hm2 h2 => ?_) (fun n2o => ?_)
  · rw [tz_n1, tz_x (by decide)]
    exact tm_leaf (F := [111, 110, 32, 68, 32, 78]) hP (tz_tr_spo c0 c1 c2) rfl hm2 (by omega) h2 (by decide) (by decide) hy hn
  · rw [tz_n0, tz_y rfl]
    have hm3 := tz_RS2_so (x := 107) hm
    refine tm_reads hP hm3 (by omega) h1 (by decide) (fun c2 m2 hm2 h2 => ?_) (fun n2e => ?_)
    · rw [tz_n1, tz_x (by decide)]
      exact tm_leaf (F := [97, 107, 32, 68]) hP (tz_tr_spe c0 c1 c2) rfl hm2 (by omega) h2 (by decide) (by decide) hy hn
    · rw [tz_n0, tz_y rfl]
      have hm4 := tz_RS2_so (x := 105) hm3
      have hh := tm_leaf (F := [105, 108, 108, 32, 68, 68, 32, 78]) hP (tz_tr_spi c0 c1 n2o n2e) rfl hm4 (by omega) h1 (by decide) (by decide) hy hn
      simp only [tz_chn, Int.reduceEq, reduceIte, Nat.reduceAdd, Int.cast_ofNat_Int] at hh
      exact hh
theorem tm_readsS (hP : tz_R0 M0) (h0 : 0 ≤ i) (c0 : tz_cr M0 i = 115) (hm : tz_RS2 M0 (i + 1) 115 [] m) (h1 : i + 1 ≤ M0.1 164 14) (hy : tz_LY M0 i Q) (hn : tz_LN M0 i Q) : wX12_readsS Q m := by
  simp only [wX12_readsS, wX12_readsS_B94, wX12_readsS_B95, tz_g0, tz_g1, forall_eq]
  refine tm_reads hP hm (by omega) h1 (by decide) (fun c1 m2 hm2 h2 => ?_) (fun n1p => ?_)
  · rw [tz_n1, tz_x (by decide)]
    exact tm_readsSp hP h0 c0 c1 hm2 h2 (tz_gY hy) (tz_gN hn)
  · rw [tz_n0, tz_y rfl]
    have hm3 := tz_RS2_so (x := 117) hm
    exact tm_leaf (F := [117, 103, 97, 114, 32, 68, 32, 68]) hP (tz_tr_su c0 n1p) rfl hm3 (by omega) h1 (by decide) (by decide) hy hn
theorem tm_readsP (hP : tz_R0 M0) (h0 : 0 ≤ i) (c0 : tz_cr M0 i = 112) (hm : tz_RS2 M0 (i + 1) 112 [] m) (h1 : i + 1 ≤ M0.1 164 14) (hy : tz_LY M0 i Q) (hn : tz_LN M0 i Q) : wX12_readsP Q m := by
  simp only [wX12_readsP, wX12_readsP_B150, wX12_readsP_B151, wX12_readsP_B75, wX12_readsP_B76, tz_g0, tz_g1, forall_eq]
  refine tm_reads hP hm (by omega) h1 (by decide) (fun c1 m2 hm2 h2 => ?_) (fun n1r => ?_)
  · rw [tz_n1, tz_x (by decide)]
    exact tm_leaf (F := [111, 112, 111, 115, 101, 32, 78]) hP (tz_tr_pr c0 c1) rfl hm2 (by omega) h2 (by decide) (by decide) hy hn
  · rw [tz_n0, tz_y rfl]
    have hm3 := tz_RS2_so (x := 113) hm
    exact tm_leaf (F := [111, 115, 116, 112, 111, 110, 101]) hP (tz_tr_po c0 n1r) rfl hm3 (by omega) h1 (by decide) (by decide) hy hn
theorem tm_readsM (hP : tz_R0 M0) (h0 : 0 ≤ i) (c0 : tz_cr M0 i = 109) (hm : tz_RS2 M0 (i + 1) 109 [] m) (h1 : i + 1 ≤ M0.1 164 14) (hy : tz_LY M0 i Q) (hn : tz_LN M0 i Q) : wX12_readsM Q m := by
  simp only [wX12_readsM, wX12_readsM_B96, wX12_readsM_B97, wX12_readsM_B50, wX12_readsM_B51, tz_g0, tz_g1, forall_eq]
  refine tm_reads hP hm (by omega) h1 (by decide) (fun c1 m2 hm2 h2 => ?_) (fun n1o => ?_)
  · rw [tz_n1, tz_x2 (by decide)]
    refine tm_reads hP hm2 (by omega) h2 (by decide) (fun c2 m3 hm3 h3 => ?_) (fun n2v => ?_)
    · rw [tz_n1, tz_x (by decide)]
      exact tm_leaf (F := [101, 32, 78]) hP (tz_tr_mov c0 c1 c2) rfl hm3 (by omega) h3 (by decide) (by decide) hy hn
    · rw [tz_n0, tz_y rfl]
      have hm3 := tz_RS2_so (x := 100) hm2
      exact tm_leaf (F := [112, 32, 68, 68]) hP (tz_tr_mop c0 c1 n2v) rfl hm3 (by omega) h2 (by decide) (by decide) hy hn
  · rw [tz_n0, tz_y2 (by decide)]
    unfold tz_LN at hn
    rw [tz_tr_m c0 n1o] at hn
    unfold tz_lf at hn
    rw [tz_mt_n (by decide) n1o] at hn
    exact hn rfl m 109 [] hm
theorem tm_readsA (hP : tz_R0 M0) (h0 : 0 ≤ i) (c0 : tz_cr M0 i = 97) (hm : tz_RS2 M0 (i + 1) 97 [] m) (h1 : i + 1 ≤ M0.1 164 14) (hy : tz_LY M0 i Q) (hn : tz_LN M0 i Q) : wX12_readsA Q m := by
  simp only [wX12_readsA, wX12_readsA_B156, wX12_readsA_B157, wX12_readsA_B45, wX12_readsA_B89, tz_g0, tz_g1, forall_eq]
  refine tm_reads hP hm (by omega) h1 (by decide) (fun c1 m2 hm2 h2 => ?_) (fun n1m => ?_)
  · rw [tz_n1, tz_x (by decide)]
    unfold tz_LY at hy
    unfold tz_LN at hn
    rw [tz_tr_am c0 c1] at hy hn
    unfold tz_lf at hy hn
    refine tm_reads hP hm2 (by omega) h2 (by decide) (fun d1 m3 hm3 h3 => ?_) (fun d1 => ?_)
    · rw [tz_mt_y (by decide) d1] at hy hn
      rw [tz_n1, tz_x (by decide)]
      refine tm_reads hP hm3 (by omega) h3 (by decide) (fun d2 m4 hm4 h4 => ?_) (fun d2 => ?_)
      · rw [tz_mt_y (by decide) d2] at hy hn
        rw [tz_n1, tz_x (by decide)]
        refine tm_reads hP hm4 (by omega) h4 (by decide) (fun d3 m5 hm5 h5 => ?_) (fun d3 => ?_)
        · rw [tz_mt_y (by decide) d3] at hy hn
          rw [tz_n1, tz_x (by decide)]
          refine tm_reads hP hm5 (by omega) h5 (by decide) (fun d4 m6 hm6 h6 => ?_) (fun d4 => ?_)
          · rw [tz_mt_y (by decide) d4] at hy hn
            rw [tz_n1, tz_x2 (by decide)]
            generalize hp : i + 1 + 1 + 1 + 1 + 1 + 1 = p at *
            have es : tz_st (tz_cr M0) 83 p = if tz_cr M0 p = 45 then ((tz_nm2 (tz_cr M0) (p + 1)).1, (tz_nm2 (tz_cr M0) (p + 1)).2.1, (tz_nm2 (tz_cr M0) (p + 1)).2.2.map (fun v => -v)) else tz_nm2 (tz_cr M0) p := by
              unfold tz_st
              rw [if_neg (by decide), if_neg (by decide), if_pos rfl]
            have em : tz_mt (tz_cr M0) [83] p = ((tz_st (tz_cr M0) 83 p).1, (tz_st (tz_cr M0) 83 p).2.1, if (tz_st (tz_cr M0) 83 p).1 then (tz_st (tz_cr M0) 83 p).2.2 else []) := by
              unfold tz_mt
              cases ho : (tz_st (tz_cr M0) 83 p).1
              · rfl
              · rw [if_pos rfl, if_pos rfl]
                show (true, _, _ ++ []) = _
                rw [List.append_nil]; rfl
            have hnm : ∀ j : Int, (tz_nm2 (tz_cr M0) j).1 = false → (tz_nm2 (tz_cr M0) j).2.1 = j := fun j g => by
              unfold tz_nm2 at g ⊢
              cases h5 : tz_dg (tz_cr M0 j)
              · rfl
              · rw [h5, if_pos rfl] at g
                cases h6 : tz_dg (tz_cr M0 (j + 1)) <;> rw [h6] at g <;> cases g
            have hl1 : ∀ j : Int, (tz_nm2 (tz_cr M0) j).1 = true → ∃ v : Int, (tz_nm2 (tz_cr M0) j).2.2 = [v] := fun j g => by
              unfold tz_nm2 at g ⊢
              cases h5 : tz_dg (tz_cr M0 j)
              · rw [h5, if_neg (by decide)] at g; cases g
              · cases h6 : tz_dg (tz_cr M0 (j + 1))
                · exact ⟨_, rfl⟩
                · exact ⟨_, rfl⟩
            rw [em] at hy hn
            refine tm_reads hP hm6 (by omega) h6 (by decide) (fun d5 m7 hm7 h7 => ?_) (fun d5 => ?_)
            · rw [if_pos d5] at es
              rw [es] at hy hn
              refine tm_num (a := 0) hP hm7 (by omega) h7 rfl (by decide) (fun ho m8 hm8 h8 => ?_) (fun ho => ?_)
              · obtain ⟨v, hv⟩ := hl1 _ ho
                rw [tz_n1, tz_x2 (by decide), tz_x (by decide), tz_n0, tz_p ⟨by decide, by decide⟩]
                rw [hv, List.nil_append] at hm8
                have e1 : m8.1 174 0 = v := hm8.2.2.2.2 0 (by show 0 < 1; omega)
                rw [e1]
                refine hy ho _ ?_
                dsimp only
                rw [ho, if_pos rfl, if_pos rfl, hv]
                exact tz_RS2_up (A := []) (a := 0) (x := -v) hm8 rfl
              · rw [tz_n0, tz_y2 (by decide)]
                refine hn ho m7 97 [] ?_
                dsimp only
                rw [hnm _ ho]; exact hm7
            · rw [if_neg d5] at es
              rw [es] at hy hn
              refine tm_num (a := 0) hP hm6 (by omega) h6 rfl (by decide) (fun ho m8 hm8 h8 => ?_) (fun ho => ?_)
              · obtain ⟨v, hv⟩ := hl1 _ ho
                rw [tz_n1, tz_x2 (by decide), tz_n0, tz_y rfl, tz_p ⟨by decide, by decide⟩]
                rw [hv, List.nil_append] at hm8
                have e1 : m8.1 174 0 = v := hm8.2.2.2.2 0 (by show 0 < 1; omega)
                rw [e1]
                refine hy ho _ ?_
                dsimp only
                rw [ho, if_pos rfl, if_pos rfl, hv]
                exact tz_RS2_up (A := []) (a := 0) (x := v) hm8 rfl
              · rw [tz_n0, tz_y2 (by decide)]
                refine hn ho m6 97 [] ?_
                dsimp only
                rw [hnm _ ho]; exact hm6
          · rw [tz_mt_n (by decide) d4] at hn
            rw [tz_n0, tz_y2 (by decide)]
            exact hn rfl m5 97 [] hm5
        · rw [tz_mt_n (by decide) d3] at hn
          rw [tz_n0, tz_y rfl]
          exact hn rfl m4 97 [] hm4
      · rw [tz_mt_n (by decide) d2] at hn
        rw [tz_n0, tz_y rfl]
        exact hn rfl m3 97 [] hm3
    · rw [tz_mt_n (by decide) d1] at hn
      rw [tz_n0, tz_y rfl]
      exact hn rfl m2 97 [] hm2
  · rw [tz_n0, tz_y rfl]
    have hm3 := tz_RS2_so (x := 106) hm
    exact tm_leaf (F := [100, 106, 111, 117, 114, 110]) hP (tz_tr_ad c0 n1m) rfl hm3 (by omega) h1 (by decide) (by decide) hy hn
theorem tm_readsCommand (hP : tz_R0 M0) (hi : M0.1 164 15 = i) (h0 : 0 ≤ i) (h1 : i ≤ M0.1 164 14) (hy : tz_LY M0 i Q) (hn : tz_LN M0 i Q) : wX12_readsCommand Q M0 := by
  have hs : tz_RS2 M0 i (M0.1 164 19) [] M0 := ⟨fun _ _ _ _ => rfl, rfl, hi, rfl, fun k hk => absurd hk (Nat.not_lt_zero k)⟩
  have hm := tz_RS2_so (x := tz_cr M0 i) hs
  simp only [wX12_readsCommand, wX12_readsCommand_B113, wX12_readsCommand_B114, wX12_readsCommand_B155, wX12_readsCommand_B156, tz_g0, tz_g1, forall_eq]
  rw [tm_nextChar hP hs h0 h1]
  refine tm_reads hP hm h0 h1 (by decide) (fun c0 m1 hm1 h2 => ?_) (fun n0s => ?_)
  · rw [tz_n1, tz_x (by decide)]
    rw [c0] at hm1
    exact tm_readsS hP h0 c0 hm1 h2 (tz_gY hy) (tz_gN hn)
  · rw [tz_n0, tz_y rfl]
    refine tm_reads hP hm h0 h1 (by decide) (fun c0 m1 hm1 h2 => ?_) (fun n0p => ?_)
    · rw [tz_n1, tz_x (by decide)]
      rw [c0] at hm1
      exact tm_readsP hP h0 c0 hm1 h2 (tz_gY hy) (tz_gN hn)
    · rw [tz_n0, tz_y rfl]
      refine tm_reads hP hm h0 h1 (by decide) (fun c0 m1 hm1 h2 => ?_) (fun n0m => ?_)
      · rw [tz_n1, tz_x (by decide)]
        rw [c0] at hm1
        exact tm_readsM hP h0 c0 hm1 h2 (tz_gY hy) (tz_gN hn)
      · rw [tz_n0, tz_y rfl]
        refine tm_reads hP hm h0 h1 (by decide) (fun c0 m1 hm1 h2 => ?_) (fun n0a => ?_)
        · rw [tz_n1, tz_x (by decide)]
          rw [c0] at hm1
          exact tm_readsA hP h0 c0 hm1 h2 (tz_gY hy) (tz_gN hn)
        · rw [tz_n0, tz_y rfl]
          refine tm_reads hP hm h0 h1 (by decide) (fun c0 m1 hm1 h2 => ?_) (fun n0c => ?_)
          · rw [tz_n1, tz_x (by decide)]
            rw [c0] at hm1
            exact tm_leaf (F := [108, 111, 115, 101]) hP (tz_tr_cl c0) rfl hm1 (by omega) h2 (by decide) (by decide) hy hn
          · rw [tz_n0, tz_y rfl]
            by_cases c0 : tz_cr M0 i = 118
            · have hm8 : tz_RS2 M0 i 118 [] (ts_si M0 164 19 (tz_cr M0 i)) := by
                have h8 := hm
                rw [c0] at h8 ⊢
                exact h8
              exact tm_leaf (F := [118, 111, 116, 101]) hP (tz_tr_v n0s n0p n0m n0a n0c) rfl hm8 h0 h1 (by decide) (by decide) hy hn
            · refine tm_reads hP hm h0 h1 (by decide) (fun g => absurd g c0) (fun _ => ?_)
              rw [tz_n0, tz_y rfl]
              unfold tz_LN at hn
              rw [tz_tr_v n0s n0p n0m n0a n0c] at hn
              unfold tz_lf at hn
              rw [tz_mt_n (by decide) c0] at hn
              exact hn rfl _ _ [] hm
end TZY
