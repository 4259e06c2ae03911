/-! ===== the law's loop ===== -/
section TLZ
variable {B : Int} {L : Nat} {xs : Nat → Int32} {Q : Int → ts_M → Prop} {k28 : Int → ts_M → Prop} {y5 : Int} {M M0 : ts_M}
theorem tl_round (hL : L ≤ 2048) (hJ : tz_J B M) (hB0 : 0 ≤ B) (hB : B ≤ 65536) (h0 : 0 ≤ y5) (h1 : y5 ≤ 2100) (hQ : Q 1 M) (hk : y5 ≤ (L : Int) - 4 → tz_K B y5 k28) : wL_law_L28 L xs Q k28 y5 M := by
  unfold wL_law_L28
  rw [tz_n (x := (L : Int) - 4) (by omega) (by omega), tz_n (x := y5) (by omega) (by omega)]
  generalize ts_w (ts_and (ts_xs xs y5) 63) = s
  refine ⟨fun _ => hQ, fun c => ⟨⟨h0, by omega⟩, ?_⟩⟩
  have hk := hk (by omega)
  have w1 : ts_w (y5 + 1) = y5 + 1 := tz_n (by omega) (by omega)
  have w2 : ts_w (y5 + 2) = y5 + 2 := tz_n (by omega) (by omega)
  have w3 : ts_w (y5 + 3) = y5 + 3 := tz_n (by omega) (by omega)
  have b1 : 0 ≤ ts_w (y5 + 1) ∧ ts_w (y5 + 1) < (L : Int) := by rw [w1]; omega
  have b2 : 0 ≤ ts_w (y5 + 2) ∧ ts_w (y5 + 2) < (L : Int) := by rw [w2]; omega
  have b3 : 0 ≤ ts_w (y5 + 3) ∧ ts_w (y5 + 3) < (L : Int) := by rw [w3]; omega
  have hB8 : B ≤ 800000000 := by omega
  refine ⟨fun _ => tl_c0 hJ hB0 hB8 b1 b2 b3 hk, fun _ => ?_⟩
  refine ⟨fun _ => tl_c1 hJ hB0 hB8 b1 b2 b3 hk, fun _ => ?_⟩
  refine ⟨fun _ => tl_c2 hJ hB0 hB8 b1 b2 b3 hk, fun _ => ?_⟩
  refine ⟨fun _ => tl_c3 hJ hB0 hB8 b1 b2 b3 hk, fun _ => ?_⟩
  refine ⟨fun _ => tl_c4 hJ hB0 hB8 hk, fun _ => ?_⟩
  refine ⟨fun _ => tl_c5 hJ hB0 hB8 hk, fun _ => ?_⟩
  refine ⟨fun _ => tl_c6 hJ hB0 hB8 hk, fun _ => ?_⟩
  refine ⟨fun _ => tl_c7 hJ hB0 hB8 b1 b2 b3 hk, fun _ => ?_⟩
  refine ⟨fun _ => tl_c8 hJ hB0 hB8 hk, fun _ => ?_⟩
  refine ⟨fun _ => tl_c9 hJ hB0 hB8 b1 b2 b3 hk, fun _ => ?_⟩
  refine ⟨fun _ => tl_c10 hJ hB0 hB8 b1 b2 b3 hk, fun _ => ?_⟩
  refine ⟨fun _ => tl_c11 hJ hB0 hB8 b1 b2 b3 hk, fun _ => ?_⟩
  refine ⟨fun _ => tl_c12 hJ hk, fun _ => ?_⟩
  refine ⟨fun _ => tl_c13 hJ hB8 b1 hk, fun _ => ?_⟩
  refine ⟨fun _ => tl_c14 hJ hB8 b1 hk, fun _ => ?_⟩
  refine ⟨fun _ => tl_c15 hJ hB8 b1 hk, fun _ => ?_⟩
  refine ⟨fun _ => tl_c16 hJ hB8 b1 hk, fun _ => ?_⟩
  refine ⟨fun _ => tl_c17 hJ hk, fun _ => ?_⟩
  refine ⟨fun _ => tl_c18 hJ hB8 b1 hk, fun _ => ?_⟩
  refine ⟨fun _ => tl_c19 hJ hB8 b1 hk, fun _ => ?_⟩
  refine ⟨fun _ => tl_c20 hJ hk, fun _ => ?_⟩
  refine ⟨fun _ => tl_c21 hJ hB8 b1 hk, fun _ => ?_⟩
  refine ⟨fun _ => tl_c22 hJ hB8 hk, fun _ => ?_⟩
  refine ⟨fun _ => tl_c23 hJ hB8 hk, fun _ => ?_⟩
  refine ⟨fun _ => tl_c24 hJ hk, fun _ => ?_⟩
  refine ⟨fun _ => tl_c25 hJ hB8 b1 hk, fun _ => ?_⟩
  refine ⟨fun _ => tl_c26 hJ hB8 hk, fun _ => ?_⟩
  refine ⟨fun _ => tl_c27 hJ hB8 hk, fun _ => ?_⟩
  refine ⟨fun _ => tl_c28 hJ hB8 b1 hk, fun _ => ?_⟩
  refine ⟨fun _ => tl_c29 hJ hB8 b1 b2 hk, fun _ => ?_⟩
  refine ⟨fun _ => tl_c30 hJ hB8 hk, fun _ => ?_⟩
  refine ⟨fun _ => tl_c31 hJ hB8 hk, fun _ => ?_⟩
  refine ⟨fun _ => tl_c32 hJ hB8 b1 hk, fun _ => ?_⟩
  refine ⟨fun _ => tl_c33 hJ hB8 b1 hk, fun _ => ?_⟩
  refine ⟨fun _ => tl_c34 hJ hB8 b1 hk, fun _ => ?_⟩
  refine ⟨fun _ => tl_c35 hJ hB8 b1 b2 hk, fun _ => ?_⟩
  refine ⟨fun _ => tl_c36 hJ hk, fun _ => ?_⟩
  refine ⟨fun _ => tl_c37 hJ hB8 b1 b2 hk, fun _ => ?_⟩
  refine ⟨fun _ => tl_c38 hJ hB8 b1 b2 hk, fun _ => ?_⟩
  refine ⟨fun _ => tl_c39 hJ hk, fun _ => ?_⟩
  refine ⟨fun _ => tl_c40 hJ hk, fun _ => ?_⟩
  refine ⟨fun _ => tl_c41 hJ hB8 b1 hk, fun _ => ?_⟩
  refine ⟨fun _ => tl_c42 hJ hk, fun _ => ?_⟩
  refine ⟨fun _ => tl_c43 hJ hB8 b1 hk, fun _ => ?_⟩
  refine ⟨fun _ => tl_c44 hJ hk, fun _ => ?_⟩
  refine ⟨fun _ => tl_c45 hJ hk, fun _ => ?_⟩
  refine ⟨fun _ => tl_c46 hJ hk, fun _ => ?_⟩
  refine ⟨fun _ => tl_c47 hJ hB8 hk, fun _ => ?_⟩
  refine ⟨fun _ => tl_c48 hJ hB hk, fun _ => ?_⟩
  refine ⟨fun _ => tl_c49 hJ hB8 hk, fun _ => ?_⟩
  refine ⟨fun _ => tl_c50 hJ hB hk, fun _ => ?_⟩
  refine ⟨fun _ => tl_c51 hJ hB hk, fun _ => ?_⟩
  refine ⟨fun _ => tl_c52 hJ b1 hk, fun _ => ?_⟩
  refine ⟨fun _ => tl_c53 hJ b1 hk, fun _ => ?_⟩
  refine ⟨fun _ => tl_c54 hJ hB0 hB8 hk, fun _ => ?_⟩
  refine ⟨fun _ => tl_c55 hJ hk, fun _ => ?_⟩
  refine ⟨fun _ => tl_c56 hJ hk, fun _ => ?_⟩
  refine ⟨fun _ => tl_c57 hJ hk, fun _ => ?_⟩
  refine ⟨fun _ => tl_c58 hJ hk, fun _ => ?_⟩
  refine ⟨fun _ => tl_c59 hJ hk, fun _ => ?_⟩
  exact tz_kk hk (tz_J_c hJ (by omega) tz_Q_rfl)
theorem tl_law (hL : L ≤ 2048) (hJ : tz_J 0 M0) : ∃ n : Nat, n ≤ 513 ∧ ts_lp1 (wL_law_L28 L xs (fun r _ => ts_w r = 1)) n 0 M0 := by
  refine ⟨513, Nat.le_refl _, ?_⟩
  refine tz_lp1 (fun d x m => ∃ j : Nat, x = 4 * (j : Int) ∧ j ≤ 512 ∧ tz_J (108 * (j : Int)) m ∧ d = 512 - j) ?_ 513 512 (by decide) 0 M0 ⟨0, by omega, by omega, by rw [show (108 : Int) * ((0 : Nat) : Int) = 0 from rfl]; exact hJ, rfl⟩
  rintro k d x m ⟨j, rfl, j2, hJ2, rfl⟩ hk
  refine tl_round hL hJ2 (by omega) (by omega) (by omega) (by omega) tz_n1 (fun hc m' hJ' => ?_)
  refine hk (512 - (j + 1)) _ m' (by omega) ⟨j + 1, by omega, by omega, ?_, rfl⟩
  rw [show 108 * ((j + 1 : Nat) : Int) = 108 * (j : Int) + 108 by omega]
  exact hJ'
end TLZ
