/-! ===== the law's rounds: what a round keeps; how a case ends ===== -/
/-- what is wanted behind a round -/
def tz_K (B : Int) (y5 : Int) (k28 : Int → ts_M → Prop) : Prop := ∀ m : ts_M, tz_J (B + 108) m → k28 (y5 + 4) m
/-- the exception's name of a refusal -/
def tz_xn (r : Int) : String := if r = 1 then "java/lang/IllegalArgumentException" else if r = 2 then "java/lang/IllegalStateException" else if r = 3 then "java/lang/IndexOutOfBoundsException" else if r = 4 then "java/util/NoSuchElementException" else "java/lang/UnsupportedOperationException"
section TLA
variable {B B' n y5 o v x r q : Int} {k28 : Int → ts_M → Prop} {Q Qc : Int → ts_M → Prop} {Qv : ts_M → Prop} {X : String → ts_M → Prop} {K : ts_M → Prop} {M M' m : ts_M} {w w' : Int → Int} {h : Nat → Int → Int}
theorem tz_sl_a {M : ts_M} {a : Nat} {k : Int} {z : Int64} : (ts_sl M a k z).2.1 a k = z := by
  unfold ts_sl
  exact if_pos ⟨rfl, rfl⟩
theorem tz_sd_a {M : ts_M} {a : Nat} {k : Int} {z : UInt64} : (ts_sd M a k z).2.2 a k = z := by
  unfold ts_sd
  exact if_pos ⟨rfl, rfl⟩
theorem tz_kk (hk : tz_K B y5 k28) (hJ : tz_J (B + 108) m) : ∀ x9 : Int, x9 = y5 + 4 → k28 x9 m := fun x9 e => by rw [e]; exact hk m hJ
/-- an answer that is a number -/
theorem tl_endI (hr : r = o) (hK : K m) (ho : ts_w o = 0 → m.2.1 175 0 = ts_L x) : ((ts_w r = ts_w o → ((¬ (ts_w o = 0) → K m) ∧ (ts_w o = 0 → ((m.2.1 175 0 = ts_L x → K m) ∧ (¬ (m.2.1 175 0 = ts_L x) → Q 0 m))))) ∧ (¬ (ts_w r = ts_w o) → Q 0 m)) :=
  ⟨fun _ => ⟨fun _ => hK, fun hz => ⟨fun _ => hK, fun hn => absurd (ho hz) hn⟩⟩, fun hn => absurd (by rw [hr]) hn⟩
theorem tz_L0 : ts_L 0 = 0 := by decide
theorem tz_L1 : ts_L 1 = 1 := by decide
/-- an answer that is true or false -/
theorem tl_endB (hr : r = o) (hK : K m) (ho : ts_w o = 0 → m.2.1 175 0 = ts_L x ∧ (x = 0 ∨ x = 1)) : ((ts_w r = ts_w o → ((¬ (ts_w o = 0) → K m) ∧ (ts_w o = 0 → ((ts_w x = 0 → ((m.2.1 175 0 = 0 → K m) ∧ (¬ (m.2.1 175 0 = 0) → Q 0 m))) ∧ (¬ (ts_w x = 0) → ((m.2.1 175 0 = 1 → K m) ∧ (¬ (m.2.1 175 0 = 1) → Q 0 m))))))) ∧ (¬ (ts_w r = ts_w o) → Q 0 m)) := by
  refine ⟨fun _ => ⟨fun _ => hK, fun hz => ⟨fun hx => ⟨fun _ => hK, fun hn => absurd ?_ hn⟩, fun hx => ⟨fun _ => hK, fun hn => absurd ?_ hn⟩⟩⟩, fun hn => absurd (by rw [hr]) hn⟩
  · obtain ⟨h1, h2⟩ := ho hz
    rcases h2 with h2 | h2
    · rw [h1, h2, tz_L0]
    · rw [h2, tz_n1] at hx; exact absurd hx (by decide)
  · obtain ⟨h1, h2⟩ := ho hz
    rcases h2 with h2 | h2
    · rw [h2, tz_n0] at hx; exact absurd rfl hx
    · rw [h1, h2, tz_L1]
/-- a case whose calls may throw; an answer that is a number -/
theorem tl_I {F G : (Int → ts_M → Prop) → ts_M → Prop} {R : ts_M → Int → Prop} (hk : tz_K B y5 k28)
    (hc : ∀ Qc : Int → ts_M → Prop, (∀ (m : ts_M) (o : Int), R m o → Qc o m) → F Qc M)
    (hm : ∀ (Q : Int → ts_M → Prop) (m : ts_M) (o : Int), R m o → (∀ (x : Int) (m' : ts_M), tz_J (B + 108) m' → m'.1 164 0 = o → (ts_w o = 0 → m'.2.1 175 0 = ts_L x) → Q x m') → G Q m) :
    F (fun r1 m1 => ∀ x3 : Int, x3 = r1 → G (fun r2 m2 => ∀ x6 : Int, x6 = r2 → wX12_thrown (fun r3 m3 => ((ts_w r3 = ts_w x3 → ((¬ (ts_w x3 = 0) → (∀ x9 : Int, x9 = y5 + 4 → k28 x9 m3)) ∧ (ts_w x3 = 0 → ((m3.2.1 175 0 = ts_L x6 → (∀ x9 : Int, x9 = y5 + 4 → k28 x9 m3)) ∧ (¬ (m3.2.1 175 0 = ts_L x6) → Q 0 m3))))) ∧ (¬ (ts_w r3 = ts_w x3) → Q 0 m3))) m2) m1) M := by
  refine hc _ (fun m o hR => ?_)
  intro x3 e3
  rw [e3]
  refine hm _ m o hR (fun x m' hJ' h0 hx => ?_)
  intro x6 e6
  rw [e6]
  exact tl_endI (K := fun m3 => ∀ x9 : Int, x9 = y5 + 4 → k28 x9 m3) h0 (tz_kk hk hJ') hx
/-- an answer that is true or false -/
theorem tl_B {F G : (Int → ts_M → Prop) → ts_M → Prop} {R : ts_M → Int → Prop} (hk : tz_K B y5 k28)
    (hc : ∀ Qc : Int → ts_M → Prop, (∀ (m : ts_M) (o : Int), R m o → Qc o m) → F Qc M)
    (hm : ∀ (Q : Int → ts_M → Prop) (m : ts_M) (o : Int), R m o → (∀ (x : Int) (m' : ts_M), tz_J (B + 108) m' → m'.1 164 0 = o → (ts_w o = 0 → m'.2.1 175 0 = ts_L x ∧ (x = 0 ∨ x = 1)) → Q x m') → G Q m) :
    F (fun r1 m1 => ∀ x3 : Int, x3 = r1 → G (fun r2 m2 => ∀ x6 : Int, x6 = r2 → wX12_thrown (fun r3 m3 => ((ts_w r3 = ts_w x3 → ((¬ (ts_w x3 = 0) → (∀ x9 : Int, x9 = y5 + 4 → k28 x9 m3)) ∧ (ts_w x3 = 0 → ((ts_w x6 = 0 → ((m3.2.1 175 0 = 0 → (∀ x9 : Int, x9 = y5 + 4 → k28 x9 m3)) ∧ (¬ (m3.2.1 175 0 = 0) → Q 0 m3))) ∧ (¬ (ts_w x6 = 0) → ((m3.2.1 175 0 = 1 → (∀ x9 : Int, x9 = y5 + 4 → k28 x9 m3)) ∧ (¬ (m3.2.1 175 0 = 1) → Q 0 m3))))))) ∧ (¬ (ts_w r3 = ts_w x3) → Q 0 m3))) m2) m1) M := by
  refine hc _ (fun m o hR => ?_)
  intro x3 e3
  rw [e3]
  refine hm _ m o hR (fun x m' hJ' h0 hx => ?_)
  intro x6 e6
  rw [e6]
  exact tl_endB (K := fun m3 => ∀ x9 : Int, x9 = y5 + 4 → k28 x9 m3) h0 (tz_kk hk hJ') hx
/-- a case whose calls don't throw -/
theorem tl_P {F G : (Int → ts_M → Prop) → ts_M → Prop} {R : ts_M → Int → Prop} (hk : tz_K B y5 k28)
    (hc : ∀ Qc : Int → ts_M → Prop, (∀ (m : ts_M) (v : Int), R m v → Qc v m) → F Qc M)
    (hm : ∀ (Q : Int → ts_M → Prop) (m : ts_M) (v : Int), R m v → (∀ m' : ts_M, tz_J (B + 108) m' → Q v m') → G Q m) :
    F (fun r1 m1 => G (fun r2 m2 => ((ts_w r1 = ts_w r2 → (∀ x9 : Int, x9 = y5 + 4 → k28 x9 m2)) ∧ (¬ (ts_w r1 = ts_w r2) → Q 0 m2))) m1) M := by
  refine hc _ (fun m v hR => ?_)
  refine hm _ m v hR (fun m' hJ' => ?_)
  exact ⟨fun _ => tz_kk hk hJ', fun hn => absurd rfl hn⟩
/-! readers: nothing that counts is changed -/
/-- what a reader of the class leaves: its outcome o, the answer v -/
def tz_Rr (M : ts_M) (o0 v0 : Int) (m : ts_M) (o : Int) : Prop := tz_Q M m ∧ o = o0 ∧ (ts_w o0 = 0 → m.2.1 175 0 = ts_L v0)
def tz_Rp (M : ts_M) (v0 : Int) (m : ts_M) (v : Int) : Prop := tz_Q M m ∧ v = v0
theorem tl_RI {F G : (Int → ts_M → Prop) → ts_M → Prop} {o0 v0 : Int} (hJ : tz_J B M) (hk : tz_K B y5 k28)
    (hc : ∀ Qc : Int → ts_M → Prop, (∀ m : ts_M, tz_Q M m → (ts_w o0 = 0 → m.2.1 175 0 = ts_L v0) → Qc o0 m) → F Qc M)
    (hm : ∀ (Q : Int → ts_M → Prop) (m : ts_M), tz_Q M m → (∀ (x : Int) (m' : ts_M), tz_Q m m' → m'.1 164 0 = o0 → m'.2.1 175 0 = m.2.1 175 0 → (ts_w o0 = 0 → x = v0) → Q x m') → G Q m) :
    F (fun r1 m1 => ∀ x3 : Int, x3 = r1 → G (fun r2 m2 => ∀ x6 : Int, x6 = r2 → wX12_thrown (fun r3 m3 => ((ts_w r3 = ts_w x3 → ((¬ (ts_w x3 = 0) → (∀ x9 : Int, x9 = y5 + 4 → k28 x9 m3)) ∧ (ts_w x3 = 0 → ((m3.2.1 175 0 = ts_L x6 → (∀ x9 : Int, x9 = y5 + 4 → k28 x9 m3)) ∧ (¬ (m3.2.1 175 0 = ts_L x6) → Q 0 m3))))) ∧ (¬ (ts_w r3 = ts_w x3) → Q 0 m3))) m2) m1) M :=
  tl_I (R := tz_Rr M o0 v0) hk (fun Qc hQ => hc Qc (fun m h1 h2 => hQ m o0 ⟨h1, rfl, h2⟩))
    (fun Q m o hR hQ => hm Q m hR.1 (fun x m' h1 h2 h3 h4 => hQ x m' (tz_J_c (tz_J_q hJ hR.1) (by omega) h1) (by rw [h2, hR.2.1]) (fun hz => by rw [hR.2.1] at hz; rw [h3, hR.2.2 hz, h4 hz])))
theorem tl_RB {F G : (Int → ts_M → Prop) → ts_M → Prop} {o0 v0 : Int} (hJ : tz_J B M) (hk : tz_K B y5 k28) (hv : v0 = 0 ∨ v0 = 1)
    (hc : ∀ Qc : Int → ts_M → Prop, (∀ m : ts_M, tz_Q M m → (ts_w o0 = 0 → m.2.1 175 0 = ts_L v0) → Qc o0 m) → F Qc M)
    (hm : ∀ (Q : Int → ts_M → Prop) (m : ts_M), tz_Q M m → (∀ (x : Int) (m' : ts_M), tz_Q m m' → m'.1 164 0 = o0 → m'.2.1 175 0 = m.2.1 175 0 → (ts_w o0 = 0 → x = v0) → Q x m') → G Q m) :
    F (fun r1 m1 => ∀ x3 : Int, x3 = r1 → G (fun r2 m2 => ∀ x6 : Int, x6 = r2 → wX12_thrown (fun r3 m3 => ((ts_w r3 = ts_w x3 → ((¬ (ts_w x3 = 0) → (∀ x9 : Int, x9 = y5 + 4 → k28 x9 m3)) ∧ (ts_w x3 = 0 → ((ts_w x6 = 0 → ((m3.2.1 175 0 = 0 → (∀ x9 : Int, x9 = y5 + 4 → k28 x9 m3)) ∧ (¬ (m3.2.1 175 0 = 0) → Q 0 m3))) ∧ (¬ (ts_w x6 = 0) → ((m3.2.1 175 0 = 1 → (∀ x9 : Int, x9 = y5 + 4 → k28 x9 m3)) ∧ (¬ (m3.2.1 175 0 = 1) → Q 0 m3))))))) ∧ (¬ (ts_w r3 = ts_w x3) → Q 0 m3))) m2) m1) M :=
  tl_B (R := tz_Rr M o0 v0) hk (fun Qc hQ => hc Qc (fun m h1 h2 => hQ m o0 ⟨h1, rfl, h2⟩))
    (fun Q m o hR hQ => hm Q m hR.1 (fun x m' h1 h2 h3 h4 => hQ x m' (tz_J_c (tz_J_q hJ hR.1) (by omega) h1) (by rw [h2, hR.2.1]) (fun hz => by rw [hR.2.1] at hz; rw [h3, hR.2.2 hz, h4 hz]; exact ⟨rfl, hv⟩)))
theorem tl_RP {F G : (Int → ts_M → Prop) → ts_M → Prop} {v0 : Int} (hJ : tz_J B M) (hk : tz_K B y5 k28)
    (hc : ∀ Qc : Int → ts_M → Prop, (∀ m : ts_M, tz_Q M m → Qc v0 m) → F Qc M)
    (hm : ∀ (Q : Int → ts_M → Prop) (m : ts_M), tz_Q M m → (∀ m' : ts_M, tz_Q m m' → Q v0 m') → G Q m) :
    F (fun r1 m1 => G (fun r2 m2 => ((ts_w r1 = ts_w r2 → (∀ x9 : Int, x9 = y5 + 4 → k28 x9 m2)) ∧ (¬ (ts_w r1 = ts_w r2) → Q 0 m2))) m1) M :=
  tl_P (R := tz_Rp M v0) hk (fun Qc hQ => hc Qc (fun m h1 => hQ m v0 ⟨h1, rfl⟩))
    (fun Q m v hR hQ => hm Q m hR.1 (fun m' h1 => by rw [hR.2] at hQ; exact hQ m' (tz_J_c (tz_J_q hJ hR.1) (by omega) h1)))
/-! writers -/
theorem tz_H_m (hH : tz_H B M n h) (hB : B ≤ B') (h1 : ∀ a : Nat, 42 ≤ a → a < 154 → M'.1 a = M.1 a ∧ M'.2.1 a = M.2.1 a) (h2 : M'.1 158 = M.1 158) : tz_H B' M' n h := by
  obtain ⟨a1, a2, a3, a4⟩ := hH
  unfold tz_H
  rw [h2]
  refine ⟨a1, a2, a3, fun i hi => ?_⟩
  have h3 := a4 i hi
  exact ⟨tz_W_mono h3.1 hB, tz_S_m h3.1 h3.2 (fun a h4 h5 => h1 a (by omega) (by omega))⟩
theorem tz_J_w (hJ : tz_J B M) (hB : B ≤ B') (hW : tz_W B' w') (hS : tz_S 0 m w') (e : m.1 165 = w') (hH : tz_H B' m n h) (hM : tz_HM m n h) (hR : tz_QR M m) : tz_J B' m :=
  ⟨⟨by rw [e]; exact hW, by rw [e]; exact hS⟩, ⟨n, h, hH, hM⟩, tz_RS_c hJ.2.2 hB hR⟩
/-- the class's twelve -/
theorem tc_throw (hr : 0 ≤ r ∧ r ≤ 5) (h0 : r = 0 → Qv M) (hx : r ≠ 0 → X (tz_xn r) M) : wX11_throwIfRefused r Qv X M := by
  unfold wX11_throwIfRefused
  have h6 : 0 ≤ r ∧ r < 6 := by omega
  refine ⟨h6, fun c1 => ⟨h6, fun c2 => ⟨h6, fun c3 => ⟨h6, fun c4 => ⟨h6, fun c5 => h0 (by omega), fun e => ?_⟩, fun e => ?_⟩, fun e => ?_⟩, fun e => ?_⟩, fun e => ?_⟩ <;>
  · subst e
    exact hx (by decide)
/-- the state of the change: the class's own cells -/
def tz_C1 (a : Nat) : Prop := a < 14 ∨ (42 ≤ a ∧ a < 154) ∨ a = 158
theorem tc_change {c p1 p2 p3 : Int} (hW : tz_W B w) (hS : tz_S 0 M w) (hH : tz_H B M n h) (hB : B ≤ 900000000) (hc : 0 ≤ c ∧ c ≤ 11) (h1 : ts_w p1 = p1) (h2 : ts_w p2 = p2) (h3 : ts_w p3 = p3)
    (hok : tz_not w c p1 p2 p3 = 0 → ∀ m : ts_M, tz_fr tz_C1 M m → tz_S 0 m (tz_do w c p1 p2 p3) → tz_H B m (if n < 8 then n + 1 else 8) (tz_psh w h) → Q (tz_res w c p1 p2 p3) m)
    (hx : tz_not w c p1 p2 p3 ≠ 0 → X (tz_xn (tz_not w c p1 p2 p3)) M) : wX11_change c p1 p2 p3 Q X M := by
  unfold wX11_change
  refine (tc_refusal hW hS hB hc h1 h2 h3).mpr ?_
  refine tc_throw tz_not_rng (fun hz => ?_) hx
  refine tc_remember hW hS hH (fun m f hH1 => ?_)
  have hS1 : tz_S 0 m w := tz_S_m hW hS (fun a h4 h5 => f.1 a (by unfold tz_sh; omega))
  refine tc_perform hW hS1 hB hc hz (fun m2 f2 s2 => ?_)
  refine hok hz m2 (tz_fr_tr (tz_fr_m f (fun a h4 => by unfold tz_sh at h4; unfold tz_C1; omega)) (tz_fr_F f2 (fun a h4 h5 => by unfold tz_C1; omega))) s2 ?_
  exact tz_H_m hH1 (Int.le_refl _) (fun a h4 h5 => f2.1 a (by omega)) (f2.1 158 (by omega)).1
/-- what the class leaves of a command -/
def tz_R1 (B : Int) (M : ts_M) (n : Int) (h : Nat → Int → Int) (w : Int → Int) (r v : Int) (w' : Int → Int) (q : Int) (m : ts_M) (o : Int) : Prop :=
  (r = 0 ∧ o = 0 ∧ ∃ m0 : ts_M, tz_fr tz_C1 M m0 ∧ tz_S 0 m0 w' ∧ tz_H B m0 (if n < 8 then n + 1 else 8) (tz_psh w h) ∧ m = ts_sl m0 175 0 (ts_L v)) ∨ (r ≠ 0 ∧ o = q ∧ m = M)
/-- the reference's cells -/
def tz_C2 (a : Nat) : Prop := a = 164 ∨ a = 165 ∨ a = 166 ∨ a = 168 ∨ a = 169
theorem tm_cmd1 {D : (Int → ts_M → Prop) → ts_M → Prop} (hHM : tz_HM m n h) (hw : m.1 165 = w)
    (hD : ∀ (Q : Int → ts_M → Prop) (m' : ts_M), m'.1 165 = w → (∀ m'' : ts_M, tz_FR m' m'' → m''.1 165 = w' → Q v m'') → D Q m')
    (h0 : ∀ m' : ts_M, tz_fr tz_C2 m m' → (∀ j : Int, j ≠ 0 → j ≠ 5 → j ≠ 6 → m'.1 164 j = m.1 164 j) → m'.1 164 0 = 0 → m'.1 165 = w' → tz_HM m' (if n < 8 then n + 1 else 8) (tz_psh w h) → Q v m') :
    wX12_remembers (fun M5 => D (fun r7 M6 => Q r7 M6) M5) (ts_si m 164 0 0) := by
  have e165 : (ts_si m 164 0 0).1 165 = w := by rw [ts_si_ne (by decide)]; exact hw
  have hM1 : tz_HM (ts_si m 164 0 0) n h := tz_HM_c hHM (tz_Q_si (by decide)).2.1
  refine tm_remembers hM1 (fun m2 f2 o2 h2 => ?_)
  rw [e165] at h2
  have r2 : m2.1 165 = w := by rw [tz_fr_1 f2 (by omega)]; exact e165
  refine hD _ m2 r2 (fun m3 f3 r3 => ?_)
  have g164 : m3.1 164 = m2.1 164 := f3.1 164 (by decide) (by decide)
  refine h0 m3 ⟨fun a ha => ⟨?_, ?_⟩, ?_⟩ (fun j j0 j5 j6 => ?_) ?_ r3 (tz_HM_c h2 ⟨fun a j hk => ?_, fun a _ _ => by rw [f3.2]⟩)
  · unfold tz_C2 at ha
    rw [f3.1 a (by omega) (by omega), tz_fr_1 f2 (by omega), ts_si_ne (by omega)]
  · unfold tz_C2 at ha
    rw [f3.2, (f2.1 a (by omega)).2]; rfl
  · rw [f3.2, f2.2]; rfl
  · rw [g164, o2 j j5 j6, tz_si_k j0]
  · rw [g164, o2 0 (by decide) (by decide), tz_si_a]
  · rw [f3.1 a (by unfold tz_kh at hk; omega) (by unfold tz_kh at hk; omega)]
/-- what a command leaves on both sides -/
theorem tz_J_cmd {m0 : ts_M} {z : Int64} (hJ : tz_J B M) (hW : tz_W (B + 9) w') (f : tz_fr tz_C1 M m0) (hS : tz_S 0 m0 w') (hH : tz_H B m0 n h) (f2 : tz_fr tz_C2 (ts_sl m0 175 0 z) m) (o2 : ∀ j : Int, j ≠ 0 → j ≠ 5 → j ≠ 6 → m.1 164 j = (ts_sl m0 175 0 z).1 164 j) (e : m.1 165 = w') (hM : tz_HM m n h) : tz_J (B + 108) m := by
  have g1 : ∀ a : Nat, ¬ tz_C2 a → m.1 a = m0.1 a := fun a ha => (f2.1 a ha).1
  have g2 : ∀ a : Nat, ¬ tz_C2 a → a ≠ 175 → m.2.1 a = m0.2.1 a := fun a ha h5 => by rw [(f2.1 a ha).2, ts_sl_ne h5]
  have hW2 : tz_W (B + 108) w' := tz_W_mono hW (by omega)
  refine tz_J_w (w' := w') hJ (by omega) hW2 (tz_S_m hW hS (fun a h1 h2 => ⟨g1 a (by unfold tz_C2; omega), g2 a (by unfold tz_C2; omega) (by omega)⟩)) e (tz_H_m hH (by omega) (fun a h1 h2 => ⟨g1 a (by unfold tz_C2; omega), g2 a (by unfold tz_C2; omega) (by omega)⟩) (g1 158 (by unfold tz_C2; omega))) hM ⟨fun a j hk => ?_, fun a h1 h2 => ?_⟩
  · unfold tz_kr at hk
    by_cases c : a = 164
    · subst c
      rw [o2 j (by omega) (by omega) (by omega)]
      show m0.1 164 j = M.1 164 j
      rw [tz_fr_1 f (by unfold tz_C1; omega)]
    · rw [g1 a (by unfold tz_C2; omega), tz_fr_1 f (by unfold tz_C1; omega)]
  · rw [g2 a (by unfold tz_C2; omega) (by omega), (f.1 a (by unfold tz_C1; omega)).2]
/-- the reference's side of a command that is done, behind the class's -/
theorem tl_refA {c p1 p2 p3 : Int} {D : (Int → ts_M → Prop) → ts_M → Prop} {qf : Int} (hJ : tz_J B M) (hB0 : 0 ≤ B) (hB : B ≤ 800000000) (hw : M.1 165 = w) (hHM : tz_HM M n h) (hc : 0 ≤ c ∧ c ≤ 11)
    (hz : tz_not w c p1 p2 p3 = 0)
    (hD : ∀ (Q : Int → ts_M → Prop) (m' : ts_M), m'.1 165 = w → (∀ m'' : ts_M, tz_FR m' m'' → m''.1 165 = tz_do w c p1 p2 p3 → Q (tz_res w c p1 p2 p3) m'') → D Q m')
    (hR : tz_R1 B M n h w (tz_not w c p1 p2 p3) (tz_res w c p1 p2 p3) (tz_do w c p1 p2 p3) qf m o)
    (hQ : ∀ m' : ts_M, tz_J (B + 108) m' → m'.1 164 0 = o → m'.2.1 175 0 = ts_L (tz_res w c p1 p2 p3) → Q (tz_res w c p1 p2 p3) m') :
    wX12_remembers (fun M5 => D (fun r7 M6 => Q r7 M6) M5) (ts_si m 164 0 0) := by
  have hW : tz_W B w := by rw [← hw]; exact hJ.1.1
  rcases hR with ⟨_, ho, m0, f, s, hh, em⟩ | ⟨hn, _, _⟩
  · have g164 : m.1 164 = M.1 164 := by
      rw [em]
      show m0.1 164 = M.1 164
      exact tz_fr_1 f (by unfold tz_C1; omega)
    have g165 : m.1 165 = w := by rw [em]; exact (tz_fr_1 f (by unfold tz_C1; omega)).trans hw
    have g166 : m.1 166 = M.1 166 := by
      rw [em]
      show m0.1 166 = M.1 166
      exact tz_fr_1 f (by unfold tz_C1; omega)
    have hHM1 : tz_HM m n h := by
      unfold tz_HM
      rw [g164, g166]
      exact hHM
    refine tm_cmd1 (w' := tz_do w c p1 p2 p3) hHM1 g165 hD (fun m' f2 o2 h0 e2 hM2 => ?_)
    refine hQ m' ?_ (by rw [h0, ho]) ?_
    · rw [em] at f2 o2
      exact tz_J_cmd hJ (tz_keep hW hB0 (by omega) hc hz) f s hh f2 o2 e2 hM2
    · rw [(f2.1 175 (by unfold tz_C2; omega)).2, em]
      exact tz_sl_a
  · exact absurd hz hn
/-- the row that the reference sees behind the class's command -/
theorem tl_refw {r qf v0 : Int} (hw : M.1 165 = w) (hR : tz_R1 B M n h w r v0 w' qf m o) : m.1 165 = w := by
  rcases hR with ⟨_, _, m0, f, _, _, em⟩ | ⟨_, _, em⟩
  · rw [em]; exact (tz_fr_1 f (by unfold tz_C1; omega)).trans hw
  · rw [em]; exact hw
/-- the reference's side of a command that is refused -/
theorem tl_refX {r qf q v0 : Int} (hJ : tz_J B M) (hz : r ≠ 0) (hR : tz_R1 B M n h w r v0 w' qf m o)
    (hQ : ∀ m' : ts_M, tz_J (B + 108) m' → m'.1 164 0 = q → o = qf → Q 0 m') : wX12_fails q Q (ts_si m 164 0 0) := by
  rcases hR with ⟨hn, _, _⟩ | ⟨_, ho, em⟩
  · exact absurd hn hz
  · unfold wX12_fails
    intro M8 e8
    rw [e8, em]
    exact hQ _ (tz_J_c (tz_J_q hJ (tz_Q_si (by decide))) (by omega) (tz_Q_si (by decide))) tz_si_a ho
/-- a command of the form: ask, then do or fail -/
theorem tl_ref {c p1 p2 p3 : Int} {N D : (Int → ts_M → Prop) → ts_M → Prop} {qf : Int} (hJ : tz_J B M) (hB0 : 0 ≤ B) (hB : B ≤ 800000000) (hw : M.1 165 = w) (hHM : tz_HM M n h) (hc : 0 ≤ c ∧ c ≤ 11) (hq : ts_w qf = qf) (hqz : qf = 0 ↔ tz_not w c p1 p2 p3 = 0)
    (hN : ∀ (Q : Int → ts_M → Prop) (m' : ts_M), m'.1 165 = w → Q qf m' → N Q m')
    (hD : tz_not w c p1 p2 p3 = 0 → ∀ (Q : Int → ts_M → Prop) (m' : ts_M), m'.1 165 = w → (∀ m'' : ts_M, tz_FR m' m'' → m''.1 165 = tz_do w c p1 p2 p3 → Q (tz_res w c p1 p2 p3) m'') → D Q m')
    (hR : tz_R1 B M n h w (tz_not w c p1 p2 p3) (tz_res w c p1 p2 p3) (tz_do w c p1 p2 p3) qf m o)
    (hQ : ∀ (x : Int) (m' : ts_M), tz_J (B + 108) m' → m'.1 164 0 = o → (ts_w o = 0 → m'.2.1 175 0 = ts_L x) → Q x m') :
    ∀ M1 : ts_M, M1 = ts_si m 164 0 0 → N (fun r3 M2 => ∀ x4 : Int, x4 = r3 → ((ts_w x4 = 0 → wX12_remembers (fun M5 => D (fun r7 M6 => Q r7 M6) M5) M2) ∧ (¬ (ts_w x4 = 0) → wX12_fails x4 (fun r9 M8 => Q r9 M8) M2))) M1 := by
  intro M1 eM
  rw [eM]
  refine hN _ _ (by rw [ts_si_ne (by decide)]; exact tl_refw hw hR) ?_
  intro x4 e4
  rw [e4, hq]
  refine ⟨fun hz => ?_, fun hz => ?_⟩
  · exact tl_refA hJ hB0 hB hw hHM hc (hqz.mp hz) (hD (hqz.mp hz)) hR (fun m' h1 h2 h3 => hQ _ m' h1 h2 (fun _ => h3))
  · exact tl_refX hJ (fun hn => hz (hqz.mpr hn)) hR (fun m' h1 h2 h3 => hQ 0 m' h1 (by rw [h2, h3]) (fun hn => absurd hn (by rw [h3, hq]; exact hz)))
/-- true or false, as the law's wrapper writes it -/
theorem tl_wb {b : Int} (hb : b = 0 ∨ b = 1) (hQ : Qc 0 (ts_sl m 175 0 (ts_L b))) : ((ts_w b = 0 → ((0 ≤ ts_w 0 ∧ ts_w 0 < ((1 : Nat) : Int)) ∧ ∀ M5 : ts_M, M5 = ts_sl m 175 (ts_w 0) 0 → Qc 0 M5)) ∧ (¬ (ts_w b = 0) → ((0 ≤ ts_w 0 ∧ ts_w 0 < ((1 : Nat) : Int)) ∧ ∀ M5 : ts_M, M5 = ts_sl m 175 (ts_w 0) 1 → Qc 0 M5))) := by
  have hr : 0 ≤ ts_w 0 ∧ ts_w 0 < ((1 : Nat) : Int) := by rw [tz_n0]; decide
  rcases hb with e | e
  · rw [e] at hQ ⊢
    refine ⟨fun _ => ⟨hr, fun M5 e5 => ?_⟩, fun hn => absurd tz_n0 hn⟩
    rw [tz_L0] at hQ
    rw [e5, tz_n0]; exact hQ
  · rw [e] at hQ ⊢
    refine ⟨fun hn => absurd hn (by rw [tz_n1]; decide), fun _ => ⟨hr, fun M5 e5 => ?_⟩⟩
    rw [tz_L1] at hQ
    rw [e5, tz_n0]; exact hQ
/-- true or false, as a vote's number says it -/
theorem tl_n1 {b : Int} (hb : b = 0 ∨ b = 1) (hQ : Q b m) : ((¬ (ts_w b = 1) → ((ts_w 0 = 0 ∨ ts_w 0 = 1) ∧ Q 0 m)) ∧ (ts_w b = 1 → ((ts_w 1 = 0 ∨ ts_w 1 = 1) ∧ Q 1 m))) := by
  rcases hb with e | e
  · rw [e] at hQ ⊢
    exact ⟨fun _ => ⟨Or.inl tz_n0, hQ⟩, fun hn => absurd hn (by rw [tz_n0]; decide)⟩
  · rw [e] at hQ ⊢
    exact ⟨fun hn => absurd tz_n1 hn, fun _ => ⟨Or.inr tz_n1, hQ⟩⟩
/-- false, as a refusal says it -/
theorem tl_f0 (hQ : Q 0 m) : ((ts_w 0 ≤ 0 → ((ts_w 0 = 0 ∨ ts_w 0 = 1) ∧ Q 0 m)) ∧ (¬ (ts_w 0 ≤ 0) → ((ts_w 1 = 0 ∨ ts_w 1 = 1) ∧ Q 1 m))) :=
  ⟨fun _ => ⟨Or.inl tz_n0, hQ⟩, fun hn => absurd (by rw [tz_n0]; decide) hn⟩
theorem tz_xw {xs : Nat → Int32} {i : Int} : ts_w (ts_xs xs i) = ts_xs xs i := by
  unfold ts_xs ts_w
  rw [Int32.ofInt_toInt]
end TLA
