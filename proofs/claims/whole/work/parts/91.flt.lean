/-! ===== the quotients are numbers ===== -/
/-- a datum as rounding leaves it -/
def tz_rdt (f : FP.Core.Fmt) : FP.Core.Datum → Prop
  | .nan => False
  | .inf _ => True
  | .fin _ c q => c < 2 ^ f.p ∧ q ≤ f.qmax
theorem tz_rdt_bound {f : FP.Core.Fmt} {s : Bool} {c : Nat} {q : Int} (h : c < 2 ^ f.p) : tz_rdt f (FP.Core.bound f s c q) := by
  unfold FP.Core.bound
  split
  · exact ⟨h, by assumption⟩
  · exact True.intro
theorem tz_rdt_settle {f : FP.Core.Fmt} {s : Bool} {c : Nat} {q : Int} (ht : f.tails < 2 ^ f.p) : tz_rdt f (FP.Core.settle f s c q) := by
  unfold FP.Core.settle
  split
  · exact tz_rdt_bound (by assumption)
  · exact tz_rdt_bound ht
theorem tz_rdt_ratio {f : FP.Core.Fmt} {s : Bool} {num den : Nat} {e : Int} (ht : f.tails < 2 ^ f.p) (hq : f.qmin ≤ f.qmax) : tz_rdt f (FP.Core.roundRatio f s num den e) := by
  unfold FP.Core.roundRatio
  split
  · exact ⟨by omega, hq⟩
  · exact tz_rdt_settle ht
theorem tz_enc32 {d : FP.Core.Datum} (h : tz_rdt FP.Core.b32 d) : FP.Core.encode FP.Core.b32 d % 2 ^ 31 ≤ 2139095040 ∧ FP.Core.encode FP.Core.b32 d < 2 ^ 32 := by
  have e1 : FP.Core.b32.tails = 8388608 := by decide
  have e2 : FP.Core.b32.exps = 256 := by decide
  have e3 : FP.Core.b32.qmin = -149 := by decide
  have e4 : FP.Core.b32.qmax = 104 := by decide
  have e5 : 2 ^ FP.Core.b32.p = 16777216 := by decide
  cases d with
  | nan => exact h.elim
  | inf s => cases s <;> decide
  | fin s c q =>
    have h1 : c < 16777216 := by rw [← e5]; exact h.1
    have h2 : q ≤ 104 := by rw [← e4]; exact h.2
    unfold FP.Core.encode
    unfold FP.Core.assemble
    rw [e1, e2, e3]
    have hs : s.toNat ≤ 1 := by cases s <;> decide
    have h3 : (q - -149).toNat ≤ 253 := by omega
    generalize (q - -149).toNat = y at *
    dsimp only
    split <;> omega
theorem tz_enc64 {d : FP.Core.Datum} (h : tz_rdt FP.Core.b64 d) : FP.Core.encode FP.Core.b64 d % 2 ^ 63 ≤ 9218868437227405312 ∧ FP.Core.encode FP.Core.b64 d < 2 ^ 64 := by
  have e1 : FP.Core.b64.tails = 4503599627370496 := by decide
  have e2 : FP.Core.b64.exps = 2048 := by decide
  have e3 : FP.Core.b64.qmin = -1074 := by decide
  have e4 : FP.Core.b64.qmax = 971 := by decide
  have e5 : 2 ^ FP.Core.b64.p = 9007199254740992 := by decide
  cases d with
  | nan => exact h.elim
  | inf s => cases s <;> decide
  | fin s c q =>
    have h1 : c < 9007199254740992 := by rw [← e5]; exact h.1
    have h2 : q ≤ 971 := by rw [← e4]; exact h.2
    unfold FP.Core.encode
    unfold FP.Core.assemble
    rw [e1, e2, e3]
    have hs : s.toNat ≤ 1 := by cases s <;> decide
    have h3 : (q - -1074).toNat ≤ 2045 := by omega
    generalize (q - -1074).toNat = y at *
    dsimp only
    split <;> omega
theorem tz_n32 {n : Nat} (h1 : n % 2 ^ 31 ≤ 2139095040) (h2 : n < 2 ^ 32) : vf_n32 (UInt32.ofNat n) := by
  unfold vf_n32
  rw [UInt32.le_iff_toNat_le, UInt32.toNat_and, UInt32.toNat_ofNat_of_lt' h2]
  show n &&& (2 ^ 31 - 1) ≤ 2139095040
  rw [Nat.and_two_pow_sub_one_eq_mod]
  exact h1
theorem tz_n64 {n : Nat} (h1 : n % 2 ^ 63 ≤ 9218868437227405312) (h2 : n < 2 ^ 64) : vf_n64 (UInt64.ofNat n) := by
  unfold vf_n64
  rw [UInt64.le_iff_toNat_le, UInt64.toNat_and, UInt64.toNat_ofNat_of_lt' h2]
  show n &&& (2 ^ 63 - 1) ≤ 9218868437227405312
  rw [Nat.and_two_pow_sub_one_eq_mod]
  exact h1
/-- a whole number other than 0, as it is stored: a number other than 0 -/
def tz_nzd : FP.Core.Datum → Bool
  | .fin _ d _ => d != 0
  | _ => false
def tz_fnd : FP.Core.Datum → Bool
  | .fin _ _ _ => true
  | _ => false
def tz_all (p : Nat → Bool) : Nat → Nat → Bool
  | 0, s => p s
  | n + 1, s => tz_all p n s && tz_all p n (s + 2 ^ n)
theorem tz_all_at {p : Nat → Bool} : ∀ {n s : Nat}, tz_all p n s = true → ∀ k : Nat, s ≤ k → k < s + 2 ^ n → p k = true
  | 0, s, h, k, h1, h2 => by
    rw [Nat.pow_zero] at h2
    rw [show k = s by omega]; exact h
  | n + 1, s, h, k, h1, h2 => by
    have h3 : tz_all p n s = true ∧ tz_all p n (s + 2 ^ n) = true := by
      rw [← Bool.and_eq_true]; exact h
    rw [Nat.pow_succ] at h2
    by_cases c : k < s + 2 ^ n
    · exact tz_all_at h3.1 k h1 c
    · exact tz_all_at h3.2 k (by omega) (by omega)
def tz_p32 (k : Nat) : Bool := tz_nzd (FP.Core.decode FP.Core.b32 (FP.i2f (Int32.ofNat k)).toNat)
def tz_p64 (k : Nat) : Bool := tz_nzd (FP.Core.decode FP.Core.b64 (FP.i2d (Int32.ofNat k)).toNat)
theorem tz_p32_at {k : Nat} (h1 : 1 ≤ k) (h2 : k ≤ 65536) : tz_p32 k = true := by
  have hk : (Int32.ofNat k).toInt = (k : Int) := by
    rw [← Int32.ofInt_eq_ofNat]
    exact Int32.toInt_ofInt_of_le (by omega) (by omega)
  have e1 : FP.Core.b32.tails = 8388608 := by decide
  have e2 : FP.Core.b32.exps = 256 := by decide
  have e3 : FP.Core.b32.qmin = -149 := by decide
  have e4 : FP.Core.b32.qmax = 104 := by decide
  have e5 : FP.Core.b32.p = 24 := by decide
  have hl1 : 2 ^ k.log2 ≤ k := Nat.log2_self_le (by omega)
  have hl2 : k < 2 ^ (k.log2 + 1) := Nat.lt_log2_self
  have hl3 : k.log2 ≤ 16 := by
    have h3 : 2 ^ k.log2 < 2 ^ 17 := by omega
    have := (Nat.pow_lt_pow_iff_right (a := 2) (by decide)).mp h3
    omega
  have hlead : FP.Core.leading k 1 = (k.log2 : Int) := by
    unfold FP.Core.leading
    show (if 1 * 2 ^ ((k.log2 : Int) - ((Nat.log2 1 : Nat) : Int)).toNat ≤ k * 2 ^ (-((k.log2 : Int) - ((Nat.log2 1 : Nat) : Int))).toNat then (k.log2 : Int) - ((Nat.log2 1 : Nat) : Int) else (k.log2 : Int) - ((Nat.log2 1 : Nat) : Int) - 1) = _
    rw [show Nat.log2 1 = 0 by decide, show ((k.log2 : Int) - ((0 : Nat) : Int)).toNat = k.log2 by omega, show (-((k.log2 : Int) - ((0 : Nat) : Int))).toNat = 0 by omega, if_pos (by omega)]
    omega
  have hq : FP.Core.quantum FP.Core.b32 k 1 0 = (k.log2 : Int) - 23 := by
    unfold FP.Core.quantum
    rw [hlead, e3, e5, Int.max_def]
    split <;> omega
  have hn1 : 8388608 ≤ k * 2 ^ (23 - k.log2) := by
    have h3 : 2 ^ k.log2 * 2 ^ (23 - k.log2) ≤ k * 2 ^ (23 - k.log2) := Nat.mul_le_mul_right _ hl1
    rw [← Nat.pow_add, show k.log2 + (23 - k.log2) = 23 by omega] at h3
    exact h3
  have hn2 : k * 2 ^ (23 - k.log2) < 16777216 := by
    have h3 : k * 2 ^ (23 - k.log2) < 2 ^ (k.log2 + 1) * 2 ^ (23 - k.log2) := Nat.mul_lt_mul_of_pos_right hl2 (Nat.pow_pos (by decide))
    rw [← Nat.pow_add, show k.log2 + 1 + (23 - k.log2) = 24 by omega] at h3
    exact h3
  have hr : FP.Core.round FP.Core.b32 (FP.Core.ofInt (k : Int)) = .fin false (k * 2 ^ (23 - k.log2)) ((k.log2 : Int) - 23) := by
    show FP.Core.roundRatio FP.Core.b32 (decide ((k : Int) < 0)) (k : Int).natAbs 1 0 = _
    rw [decide_eq_false (by omega : ¬ (k : Int) < 0), Int.natAbs_natCast]
    unfold FP.Core.roundRatio
    rw [if_neg (by omega)]
    unfold FP.Core.roundAt
    rw [hq]
    unfold FP.Core.unitsNum FP.Core.unitsDen FP.Core.nearest
    rw [show (0 - ((k.log2 : Int) - 23)).toNat = 23 - k.log2 by omega, show ((k.log2 : Int) - 23 - 0).toNat = 0 by omega, show 1 * 2 ^ 0 = 1 by decide, Nat.mod_one, if_pos (by decide), Nat.div_one]
    unfold FP.Core.settle
    rw [e5, if_pos (by omega)]
    unfold FP.Core.bound
    rw [e4, if_pos (by omega)]
  generalize k * 2 ^ (23 - k.log2) = n at hn1 hn2 hr
  generalize k.log2 = lb at *
  show tz_nzd (FP.Core.decode FP.Core.b32 (UInt32.ofNat (FP.Core.encode FP.Core.b32 (FP.Core.round FP.Core.b32 (FP.Core.ofInt (Int32.ofNat k).toInt)))).toNat) = true
  rw [hk, hr]
  unfold FP.Core.encode
  dsimp only
  unfold FP.Core.assemble
  rw [e1, e2, e3, if_neg (by omega), show ((lb : Int) - 23 - -149).toNat + 1 = lb + 127 by omega, show (false.toNat * 256 + (lb + 127)) * 8388608 + (n - 8388608) = (lb + 127) * 8388608 + (n - 8388608) by show (0 * 256 + (lb + 127)) * 8388608 + (n - 8388608) = _; omega, UInt32.toNat_ofNat_of_lt' (by show _ < 4294967296; omega)]
  unfold FP.Core.decode FP.Core.fieldE FP.Core.fieldT
  rw [e1, e2, if_neg (by omega), if_neg (by omega)]
  show ((8388608 + _) != 0) = true
  rw [bne_iff_ne]
  omega
theorem tz_p64_all : tz_all tz_p64 10 1 = true := by decide +kernel
theorem tz_p32_0 : tz_fnd (FP.Core.decode FP.Core.b32 (FP.i2f (Int32.ofNat 0)).toNat) = true := by decide +kernel
theorem tz_p64_0 : tz_fnd (FP.Core.decode FP.Core.b64 (FP.i2d (Int32.ofNat 0)).toNat) = true := by decide +kernel
theorem tz_nz_f {d : FP.Core.Datum} (h : tz_nzd d = true) : tz_fnd d = true := by
  cases d with
  | nan => cases h
  | inf s => cases h
  | fin s c q => rfl
theorem tz_f32 {k : Nat} (h : k ≤ 65536) : tz_fnd (FP.Core.decode FP.Core.b32 (FP.i2f (Int32.ofNat k)).toNat) = true := by
  by_cases c : k = 0
  · rw [c]; exact tz_p32_0
  · exact tz_nz_f (tz_p32_at (by omega) h)
theorem tz_f64 {k : Nat} (h : k ≤ 1024) : tz_fnd (FP.Core.decode FP.Core.b64 (FP.i2d (Int32.ofNat k)).toNat) = true := by
  by_cases c : k = 0
  · rw [c]; exact tz_p64_0
  · exact tz_nz_f (tz_all_at tz_p64_all k (by omega) (by omega))
theorem tz_quo {f : FP.Core.Fmt} {x y : FP.Core.Datum} (hx : tz_fnd x = true) (hy : tz_nzd y = true) (ht : f.tails < 2 ^ f.p) (hq : f.qmin ≤ f.qmax) : tz_rdt f (FP.Core.quotient f x y) := by
  cases x with
  | nan => cases hx
  | inf s => cases hx
  | fin s c q =>
    cases y with
    | nan => cases hy
    | inf s => cases hy
    | fin t d r =>
      have hd : d ≠ 0 := by
        intro h; rw [h] at hy; cases hy
      show tz_rdt f (if d = 0 then (if c = 0 then .nan else .inf (s != t)) else FP.Core.roundRatio f (s != t) c d (q - r))
      rw [if_neg hd]
      exact tz_rdt_ratio ht hq
theorem tz_I_nat {x : Int} (h : 0 ≤ x) : ts_I x = Int32.ofNat x.toNat := by
  show Int32.ofInt x = Int32.ofNat x.toNat
  rw [← Int32.ofInt_eq_ofNat, Int.toNat_of_nonneg h]
theorem tz_vf_ddiv {x y : Int} (h1 : 0 ≤ x ∧ x ≤ 1024) (h2 : 1 ≤ y ∧ y ≤ 1024) : vf_n64 (FP.ddiv (FP.i2d (ts_I x)) (FP.i2d (ts_I y))) := by
  rw [tz_I_nat h1.1, tz_I_nat (x := y) (by omega)]
  have hx := tz_f64 (k := x.toNat) (by omega)
  have hy : tz_p64 y.toNat = true := tz_all_at tz_p64_all y.toNat (by omega) (by omega)
  have hr := tz_enc64 (tz_quo (f := FP.Core.b64) hx hy (by decide) (by decide))
  exact tz_n64 hr.1 hr.2
theorem tz_fdiv_rd {x y : Int} (h1 : 0 ≤ x ∧ x ≤ 65536) (h2 : 1 ≤ y ∧ y ≤ 65536) : ∃ d : FP.Core.Datum, tz_rdt FP.Core.b32 d ∧ FP.fdiv (FP.i2f (ts_I x)) (FP.i2f (ts_I y)) = UInt32.ofNat (FP.Core.encode FP.Core.b32 d) := by
  rw [tz_I_nat h1.1, tz_I_nat (x := y) (by omega)]
  have hx := tz_f32 (k := x.toNat) (by omega)
  have hy : tz_p32 y.toNat = true := tz_p32_at (by omega) (by omega)
  exact ⟨_, tz_quo (f := FP.Core.b32) hx hy (by decide) (by decide), rfl⟩
theorem tz_vf_fdiv {x y : Int} (h1 : 0 ≤ x ∧ x ≤ 65536) (h2 : 1 ≤ y ∧ y ≤ 65536) : vf_n32 (FP.fdiv (FP.i2f (ts_I x)) (FP.i2f (ts_I y))) := by
  obtain ⟨d, hd, e⟩ := tz_fdiv_rd h1 h2
  rw [e]
  exact tz_n32 (tz_enc32 hd).1 (tz_enc32 hd).2
/-- a number that is none of the NaN, as a double -/
theorem tz_vf_f2d {z : UInt32} (h : vf_n32 z) : vf_n64 (FP.f2d z) := by
  have h1 : z.toNat % 2 ^ 31 ≤ 2139095040 := by
    unfold vf_n32 at h
    rw [UInt32.le_iff_toNat_le, UInt32.toNat_and] at h
    have h2 : z.toNat &&& (2 ^ 31 - 1) ≤ 2139095040 := h
    rw [Nat.and_two_pow_sub_one_eq_mod] at h2
    exact h2
  have hlt := z.toNat_lt
  have hd : FP.Core.decode FP.Core.b32 z.toNat ≠ .nan := by
    have e1 : FP.Core.b32.tails = 8388608 := by decide
    have e2 : FP.Core.b32.exps = 256 := by decide
    unfold FP.Core.decode FP.Core.fieldE FP.Core.fieldT
    rw [e1, e2]
    split
    · split
      · intro h; cases h
      · omega
    · split <;> (intro h; cases h)
  have hn : FP.Core.fIsNaN z = false := by
    show decide (FP.Core.decode FP.Core.b32 z.toNat = .nan) = false
    exact decide_eq_false hd
  unfold FP.f2d
  rw [hn, if_neg (by decide)]
  show vf_n64 (UInt64.ofNat (FP.Core.encode FP.Core.b64 (FP.Core.round FP.Core.b64 (FP.Core.decode FP.Core.b32 z.toNat))))
  generalize FP.Core.decode FP.Core.b32 z.toNat = d at *
  have hr : tz_rdt FP.Core.b64 (FP.Core.round FP.Core.b64 d) := by
    cases d with
    | nan => exact absurd rfl hd
    | inf s => exact True.intro
    | fin s c q => exact tz_rdt_ratio (by decide) (by decide)
  exact tz_n64 (tz_enc64 hr).1 (tz_enc64 hr).2
theorem tz_cmp0 (a : Int) : compare a a = Ordering.eq := by
  show compareOfLessAndEq a a = Ordering.eq
  unfold compareOfLessAndEq
  rw [if_neg (Int.lt_irrefl a), if_pos rfl]
theorem tz_dec64 {z : UInt64} (h : vf_n64 z) : FP.Core.decode FP.Core.b64 z.toNat ≠ .nan := by
  have h1 : z.toNat % 2 ^ 63 ≤ 9218868437227405312 := by
    unfold vf_n64 at h
    rw [UInt64.le_iff_toNat_le, UInt64.toNat_and] at h
    have h2 : z.toNat &&& (2 ^ 63 - 1) ≤ 9218868437227405312 := h
    rw [Nat.and_two_pow_sub_one_eq_mod] at h2
    exact h2
  have hlt := z.toNat_lt
  have e1 : FP.Core.b64.tails = 4503599627370496 := by decide
  have e2 : FP.Core.b64.exps = 2048 := by decide
  unfold FP.Core.decode FP.Core.fieldE FP.Core.fieldT
  rw [e1, e2]
  split
  · split
    · intro h; cases h
    · omega
  · split <;> (intro h; cases h)
/-- a number equals itself -/
theorem tz_dc0 {a : UInt64} (h : vf_n64 a) : ts_w ((Op.cmpValue (FP.dcmp a a) CmpOp.l).toInt) = 0 := by
  have hd := tz_dec64 h
  have e : FP.dcmp a a = some Ordering.eq := by
    show FP.Core.order (FP.Core.decode FP.Core.b64 a.toNat) (FP.Core.decode FP.Core.b64 a.toNat) = some Ordering.eq
    generalize FP.Core.decode FP.Core.b64 a.toNat = d at *
    cases d with
    | nan => exact absurd rfl hd
    | inf s => exact congrArg some (tz_cmp0 _)
    | fin s c q => exact congrArg some (tz_cmp0 _)
  rw [e]
  decide
