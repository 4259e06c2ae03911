/-! ===== a row of the salon's state, and what is read off it ===== -/
def tz_a (w : Int → Int) (s k : Int) : Int := w (11 + 4 * s + k)
def tz_pi (w : Int → Int) (i : Int) : Int := w (43 + 2 * i)
def tz_pp (w : Int → Int) (i : Int) : Int := w (43 + 2 * i + 1)
def tz_mo (w : Int → Int) (k : Int) : Int := w (55 + k)
def tz_mi (w : Int → Int) (k : Int) : Int := w (62 + k)
def tz_we (w : Int → Int) (k : Int) : Int := w (82 + k)
def tz_pl (w : Int → Int) (v : Int) : Int := tz_find (w 1) (tz_pi w) v 6 0
def tz_df (x y : Int) : Int := if x < y then y - x else x - y
def tz_mp (w : Int → Int) : Int := tz_pp w (tz_pl w (w 60))
def tz_cl (x : Int) : Int := if x < 0 then 0 else if 99 < x then 99 else x
def tz_ch (w : Int → Int) : Int := tz_cl (tz_mp w + w 61)
def tz_top (w : Int → Int) : Int := if w 3 = 0 then -1 else tz_mo w (w 3 - 1)
def tz_lk (w : Int → Int) (s : Int) : Bool := decide (tz_df (tz_mp w) (tz_a w s 1) ≤ 25)
def tz_for (w : Int → Int) (s : Int) : Bool :=
  if tz_top w = 0 then tz_lk w s else if tz_top w = 1 then decide (tz_df (tz_ch w) (tz_a w s 1) < tz_df (tz_mp w) (tz_a w s 1)) else if tz_top w = 2 then !(tz_lk w s) else if tz_top w = 3 then decide (0 < tz_a w s 3) else decide (tz_a w s 2 < 3)
def tz_yw (w : Int → Int) (s : Int) : Int := if tz_for w s then tz_a w s 0 else 0
def tz_yes (w : Int → Int) : Int := tz_sum (tz_yw w) (w 0).toNat
def tz_wts (w : Int → Int) : Int := tz_sum (fun s => tz_a w s 0) (w 0).toNat
def tz_sug (w : Int → Int) : Int := tz_sum (fun s => tz_a w s 2) (w 0).toNat
def tz_sta (w : Int → Int) : Int := tz_sum (fun s => tz_a w s 1) (w 0).toNat
def tz_ado (w : Int → Int) : Bool := if tz_top w = 3 then decide (2 * tz_wts w ≤ 3 * tz_yes w) else decide (tz_wts w < 2 * tz_yes w)
def tz_adm (w : Int → Int) (k : Int) : Bool := if k = 0 then decide (w 3 = 0) else if w 3 = 0 then decide (k = 4) else decide (tz_top w < k) && (decide (k ≠ 1) || decide (w 4 = 0))
/-- what holds of the row of a salon after some calls; no number in it passes B -/
def tz_W (B : Int) (w : Int → Int) : Prop :=
  (0 ≤ w 0 ∧ w 0 ≤ 8) ∧ (0 ≤ w 1 ∧ w 1 ≤ 6) ∧ (0 ≤ w 2 ∧ w 2 ≤ B) ∧ (0 ≤ w 3 ∧ w 3 ≤ 5) ∧ (0 ≤ w 4 ∧ w 4 ≤ 1) ∧
  (0 ≤ w 5 ∧ w 5 ≤ B) ∧ (0 ≤ w 6 ∧ w 6 ≤ B) ∧ (0 ≤ w 7 ∧ w 7 ≤ B) ∧ (0 ≤ w 8 ∧ w 8 ≤ B) ∧ (0 ≤ w 9 ∧ w 9 ≤ 8 * B) ∧ (0 ≤ w 10 ∧ w 10 ≤ B) ∧
  (∀ s : Int, 0 ≤ s → s < w 0 → (1 ≤ tz_a w s 0 ∧ tz_a w s 0 ≤ 9) ∧ (0 ≤ tz_a w s 1 ∧ tz_a w s 1 ≤ 99) ∧ (0 ≤ tz_a w s 2 ∧ tz_a w s 2 ≤ B) ∧ 0 ≤ tz_a w s 3 ∧ tz_a w s 3 ≤ 2) ∧
  (∀ s : Int, w 0 ≤ s → s < 8 → tz_a w s 3 = 0) ∧
  (∀ i : Int, 0 ≤ i → i < w 1 → (0 ≤ tz_pi w i ∧ tz_pi w i < w 2) ∧ 0 ≤ tz_pp w i ∧ tz_pp w i ≤ 99) ∧
  (∀ i j : Int, 0 ≤ i → i < j → j < w 1 → tz_pi w i ≠ tz_pi w j) ∧
  (∀ k : Int, 0 ≤ k → k < w 3 → 0 ≤ tz_mo w k ∧ tz_mo w k ≤ 4) ∧
  (∀ j k : Int, 0 ≤ j → j < k → k < w 3 → tz_mo w j < tz_mo w k) ∧
  (0 < w 3 → tz_mo w 0 = 0 ∨ tz_mo w 0 = 4) ∧
  (0 < w 3 → tz_mo w 0 = 0 → ∃ i : Int, 0 ≤ i ∧ i < w 1 ∧ tz_pi w i = w 60) ∧
  (-20 ≤ w 61 ∧ w 61 ≤ 20) ∧ (w 3 = 0 → w 4 = 0) ∧
  (∀ k : Int, 0 ≤ k → k < 64 → 0 ≤ tz_we w k ∧ tz_we w k ≤ 1) ∧
  tz_sug w = 5 * w 0 + w 9 - w 10
theorem tz_pl_rng {w : Int → Int} {v : Int} (h1 : w 1 ≤ 6) : tz_pl w v = -1 ∨ (0 ≤ tz_pl w v ∧ tz_pl w v < w 1 ∧ tz_pi w (tz_pl w v) = v) := tz_find_rng (Int.le_refl _)
theorem tz_pl_none {w : Int → Int} {v : Int} (h1 : w 1 ≤ 6) (h2 : tz_pl w v = -1) : ∀ i : Int, 0 ≤ i → i < w 1 → tz_pi w i ≠ v := tz_find_none (by omega) h2 (Int.le_refl _)
/-- where a main motion lies, its proposal is on the list -/
theorem tz_pl_main {B : Int} {w : Int → Int} (hW : tz_W B w) (h1 : 0 < w 3) (h2 : tz_mo w 0 = 0) : 0 ≤ tz_pl w (w 60) ∧ tz_pl w (w 60) < w 1 ∧ tz_pi w (tz_pl w (w 60)) = w 60 := by
  obtain ⟨_, e1, _, _, _, _, _, _, _, _, _, _, _, _, _, _, _, _, e2, _⟩ := hW
  obtain ⟨i, e3, e4, e5⟩ := e2 h1 h2
  rcases tz_pl_rng (w := w) (v := w 60) e1.2 with h3 | h3
  · exact absurd e5 (tz_pl_none e1.2 h3 i e3 e4)
  · exact h3
theorem tz_top_rng {B : Int} {w : Int → Int} (hW : tz_W B w) : -1 ≤ tz_top w ∧ tz_top w ≤ 4 := by
  obtain ⟨_, _, _, e1, _, _, _, _, _, _, _, _, _, _, _, e2, _⟩ := hW
  unfold tz_top
  split
  · omega
  · have := e2 (w 3 - 1) (by omega) (by omega); omega
theorem tz_top_pos {B : Int} {w : Int → Int} (hW : tz_W B w) (h1 : w 3 ≠ 0) : 0 ≤ tz_top w ∧ tz_top w ≤ 4 := by
  obtain ⟨_, _, _, e1, _, _, _, _, _, _, _, _, _, _, _, e2, _⟩ := hW
  unfold tz_top
  rw [if_neg h1]
  exact e2 (w 3 - 1) (by omega) (by omega)
/-- a top motion of another kind than j lies on a main motion -/
theorem tz_main_of {B : Int} {w : Int → Int} (hW : tz_W B w) (h1 : 0 ≤ tz_top w) (h2 : tz_top w ≤ 3) : 0 < w 3 ∧ tz_mo w 0 = 0 := by
  obtain ⟨_, _, _, e1, _, _, _, _, _, _, _, _, _, _, _, e2, e3, e4, _⟩ := hW
  unfold tz_top at h1 h2
  by_cases h3 : w 3 = 0
  · rw [if_pos h3] at h1; omega
  · rw [if_neg h3] at h1 h2
    refine ⟨by omega, ?_⟩
    rcases e4 (by omega) with h4 | h4
    · exact h4
    · by_cases h5 : w 3 = 1
      · rw [h5] at h2
        have h6 : tz_mo w 0 ≤ 3 := h2
        omega
      · have h6 := e3 0 (w 3 - 1) (by omega) (by omega) (by omega)
        omega
theorem tz_mp_rng {B : Int} {w : Int → Int} (hW : tz_W B w) (h1 : 0 < w 3) (h2 : tz_mo w 0 = 0) : 0 ≤ tz_mp w ∧ tz_mp w ≤ 99 := by
  have h3 := tz_pl_main hW h1 h2
  obtain ⟨_, _, _, _, _, _, _, _, _, _, _, _, _, e1, _⟩ := hW
  exact (e1 _ h3.1 h3.2.1).2
theorem tz_df_rng {x y : Int} (h1 : 0 ≤ x) (h2 : x ≤ 99) (h3 : 0 ≤ y) (h4 : y ≤ 99) : 0 ≤ tz_df x y ∧ tz_df x y ≤ 99 := by unfold tz_df; split <;> omega
theorem tz_cl_rng {x : Int} : 0 ≤ tz_cl x ∧ tz_cl x ≤ 99 := by unfold tz_cl; split <;> (try split) <;> omega
theorem tz_wts_rng {B : Int} {w : Int → Int} (hW : tz_W B w) : 0 ≤ tz_wts w ∧ tz_wts w ≤ 72 := by
  obtain ⟨e0, _, _, _, _, _, _, _, _, _, _, e1, _⟩ := hW
  have h1 := tz_sum_rng (f := fun s => tz_a w s 0) (lo := 0) (up := 9) (n := (w 0).toNat) (fun i h2 h3 => by have := e1 i h2 (by omega); omega)
  unfold tz_wts; omega
theorem tz_yw_rng {B : Int} {w : Int → Int} (hW : tz_W B w) {s : Int} (h1 : 0 ≤ s) (h2 : s < w 0) : 0 ≤ tz_yw w s ∧ tz_yw w s ≤ 9 := by
  obtain ⟨e0, _, _, _, _, _, _, _, _, _, _, e1, _⟩ := hW
  have := e1 s h1 h2
  unfold tz_yw; split <;> omega
theorem tz_yes_rng {B : Int} {w : Int → Int} (hW : tz_W B w) : 0 ≤ tz_yes w ∧ tz_yes w ≤ 72 := by
  have e0 := hW.1
  have h1 := tz_sum_rng (f := tz_yw w) (lo := 0) (up := 9) (n := (w 0).toNat) (fun i h2 h3 => tz_yw_rng hW h2 (by omega))
  unfold tz_yes; omega
/-- what is wanted of the list of proposals alone -/
def tz_L (w : Int → Int) : Prop := (0 ≤ w 1 ∧ w 1 ≤ 6) ∧ ∀ i : Int, 0 ≤ i → i < w 1 → ts_w (tz_pi w i) = tz_pi w i ∧ 0 ≤ tz_pp w i ∧ tz_pp w i ≤ 99
theorem tz_L_of {B : Int} {w : Int → Int} (hB : B ≤ 1000000000) (hW : tz_W B w) : tz_L w := by
  obtain ⟨_, e1, e2, _, _, _, _, _, _, _, _, _, _, e3, _⟩ := hW
  exact ⟨e1, fun i h1 h2 => by have := e3 i h1 h2; exact ⟨tz_n (by omega) (by omega), this.2⟩⟩
theorem tz_W60 {B : Int} {w : Int → Int} (hB : B ≤ 1000000000) (hW : tz_W B w) (h1 : 0 < w 3) (h2 : tz_mo w 0 = 0) : ts_w (w 60) = w 60 := by
  have h3 := tz_pl_main hW h1 h2
  have h4 := (tz_L_of hB hW).2 _ h3.1 h3.2.1
  rw [h3.2.2] at h4
  exact h4.1
theorem tz_W61 {B : Int} {w : Int → Int} (hW : tz_W B w) : -20 ≤ w 61 ∧ w 61 ≤ 20 := by
  obtain ⟨_, _, _, _, _, _, _, _, _, _, _, _, _, _, _, _, _, _, _, e1, _⟩ := hW
  exact e1
theorem tz_L_mp {w : Int → Int} (hL : tz_L w) (h1 : 0 ≤ tz_pl w (w 60)) : 0 ≤ tz_mp w ∧ tz_mp w ≤ 99 := by
  rcases tz_pl_rng (w := w) (v := w 60) hL.1.2 with h2 | h2
  · omega
  · exact (hL.2 _ h1 h2.2.1).2
theorem tz_L_congr {w w2 : Int → Int} (hL : tz_L w) (h1 : w2 1 = w 1) (h2 : ∀ k : Int, 43 ≤ k → k < 55 → w2 k = w k) : tz_L w2 := by
  obtain ⟨e1, e2⟩ := hL
  refine ⟨by rw [h1]; exact e1, fun i h3 h4 => ?_⟩
  rw [h1] at h4
  have e3 := e2 i h3 h4
  have e4 : tz_pi w2 i = tz_pi w i := h2 (43 + 2 * i) (by omega) (by omega)
  have e5 : tz_pp w2 i = tz_pp w i := h2 (43 + 2 * i + 1) (by omega) (by omega)
  rw [e4, e5]; exact e3
theorem tz_pl_congr {w w2 : Int → Int} {v : Int} (h0 : w 1 ≤ 6) (h1 : w2 1 = w 1) (h2 : ∀ k : Int, 43 ≤ k → k < 55 → w2 k = w k) : tz_pl w2 v = tz_pl w v := by
  unfold tz_pl; rw [h1]
  exact tz_find_eq (Int.le_refl 0) (fun i h3 h4 => h2 (43 + 2 * i) (by omega) (by omega))
theorem tz_mp_congr {w w2 : Int → Int} (h0 : w 1 ≤ 6) (h1 : w2 1 = w 1) (h2 : ∀ k : Int, 43 ≤ k → k < 55 → w2 k = w k) (h3 : w2 60 = w 60) (h4 : 0 ≤ tz_pl w (w 60)) : tz_mp w2 = tz_mp w := by
  unfold tz_mp
  rw [h3, tz_pl_congr h0 h1 h2]
  rcases tz_pl_rng (w := w) (v := w 60) h0 with h5 | h5
  · omega
  · exact h2 (43 + 2 * tz_pl w (w 60) + 1) (by omega) (by omega)
theorem tz_lk_congr {w w2 : Int → Int} {s : Int} (h0 : w 1 ≤ 6) (h1 : w2 1 = w 1) (h2 : ∀ k : Int, 43 ≤ k → k < 55 → w2 k = w k) (h3 : w2 60 = w 60) (h4 : 0 ≤ tz_pl w (w 60)) (h5 : w2 (11 + 4 * s + 1) = w (11 + 4 * s + 1)) : tz_lk w2 s = tz_lk w s := by
  unfold tz_lk
  rw [tz_mp_congr h0 h1 h2 h3 h4, show tz_a w2 s 1 = tz_a w s 1 from h5]
