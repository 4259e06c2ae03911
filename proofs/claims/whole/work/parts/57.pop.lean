/-! ===== the number of bits of a long, as the JDK counts it ===== -/
def tz_dv (c : Nat) : Nat → (Nat → Nat) → Nat
  | 0, _ => 0
  | k + 1, d => d 0 + c * tz_dv c k (fun i => d (i + 1))
theorem tz_dv_eq {c : Nat} : ∀ {k : Nat} {d e : Nat → Nat}, (∀ i, i < k → d i = e i) → tz_dv c k d = tz_dv c k e
  | 0, _, _, _ => rfl
  | k + 1, d, e, h1 => by
    show d 0 + c * tz_dv c k (fun i => d (i + 1)) = e 0 + c * tz_dv c k (fun i => e (i + 1))
    rw [h1 0 (by omega), tz_dv_eq (k := k) (fun i h2 => h1 (i + 1) (by omega))]
theorem tz_dv_add {c : Nat} : ∀ {k : Nat} {d e : Nat → Nat}, tz_dv c k d + tz_dv c k e = tz_dv c k (fun i => d i + e i)
  | 0, _, _ => rfl
  | k + 1, d, e => by
    show d 0 + c * tz_dv c k (fun i => d (i + 1)) + (e 0 + c * tz_dv c k (fun i => e (i + 1))) = d 0 + e 0 + c * tz_dv c k (fun i => d (i + 1) + e (i + 1))
    rw [← tz_dv_add (k := k), Nat.mul_add]; omega
theorem tz_dv_lt {c : Nat} : ∀ {k : Nat} {d : Nat → Nat}, (∀ i, i < k → d i < c) → tz_dv c k d < c ^ k
  | 0, _, _ => by simp [tz_dv]
  | k + 1, d, h1 => by
    have h2 := tz_dv_lt (c := c) (k := k) (d := fun i => d (i + 1)) (fun i h3 => h1 (i + 1) (by omega))
    have h3 := h1 0 (by omega)
    show d 0 + c * tz_dv c k (fun i => d (i + 1)) < c ^ (k + 1)
    have h4 : c * (tz_dv c k (fun i => d (i + 1)) + 1) ≤ c * c ^ k := Nat.mul_le_mul_left c h2
    rw [Nat.mul_add] at h4
    have h5 : c ^ (k + 1) = c * c ^ k := by rw [Nat.pow_succ, Nat.mul_comm]
    omega
/-- two digits at a time -/
theorem tz_dv_pair {c : Nat} : ∀ {k : Nat} {d : Nat → Nat}, tz_dv c (2 * k) d = tz_dv (c * c) k (fun i => d (2 * i) + c * d (2 * i + 1))
  | 0, _ => rfl
  | k + 1, d => by
    have h1 := tz_dv_pair (c := c) (k := k) (d := fun i => d (i + 2))
    show d 0 + c * (d 1 + c * tz_dv c (2 * k) (fun i => d (i + 2))) = d 0 + c * d 1 + c * c * tz_dv (c * c) k (fun i => d (2 * (i + 1)) + c * d (2 * (i + 1) + 1))
    rw [h1, Nat.mul_add, Nat.mul_assoc, Nat.add_assoc]
    rfl
theorem tz_and_split {p a x y : Nat} (h1 : a < 2 ^ p) : (a + 2 ^ p * x) &&& y = (a &&& (y % 2 ^ p)) + 2 ^ p * (x &&& (y / 2 ^ p)) := by
  have h2 := Nat.div_add_mod ((a + 2 ^ p * x) &&& y) (2 ^ p)
  rw [Nat.and_div_two_pow, Nat.and_mod_two_pow] at h2
  have h3 : (a + 2 ^ p * x) / 2 ^ p = x := by rw [Nat.add_mul_div_left _ _ (Nat.two_pow_pos p), Nat.div_eq_of_lt h1, Nat.zero_add]
  have h4 : (a + 2 ^ p * x) % 2 ^ p = a := by rw [Nat.add_mul_mod_self_left, Nat.mod_eq_of_lt h1]
  rw [h3, h4] at h2
  omega
theorem tz_and_same {p a b x y : Nat} (h1 : a < 2 ^ p) (h2 : b < 2 ^ p) : (a + 2 ^ p * x) &&& (b + 2 ^ p * y) = (a &&& b) + 2 ^ p * (x &&& y) := by
  rw [tz_and_split h1]
  rw [show (b + 2 ^ p * y) % 2 ^ p = b by rw [Nat.add_mul_mod_self_left, Nat.mod_eq_of_lt h2], show (b + 2 ^ p * y) / 2 ^ p = y by rw [Nat.add_mul_div_left _ _ (Nat.two_pow_pos p), Nat.div_eq_of_lt h2, Nat.zero_add]]
theorem tz_dv_and {m : Nat} : ∀ {k : Nat} {d e : Nat → Nat}, (∀ i, i < k → d i < 2 ^ m) → (∀ i, i < k → e i < 2 ^ m) → tz_dv (2 ^ m) k d &&& tz_dv (2 ^ m) k e = tz_dv (2 ^ m) k (fun i => d i &&& e i)
  | 0, _, _, _, _ => Nat.and_self 0
  | k + 1, d, e, h1, h2 => by
    show (d 0 + 2 ^ m * tz_dv (2 ^ m) k (fun i => d (i + 1))) &&& (e 0 + 2 ^ m * tz_dv (2 ^ m) k (fun i => e (i + 1))) = (d 0 &&& e 0) + 2 ^ m * tz_dv (2 ^ m) k (fun i => d (i + 1) &&& e (i + 1))
    rw [tz_and_same (h1 0 (by omega)) (h2 0 (by omega)), tz_dv_and (k := k) (fun i h3 => h1 (i + 1) (by omega)) (fun i h3 => h2 (i + 1) (by omega))]
theorem tz_dv_mod {m j : Nat} {k : Nat} {d : Nat → Nat} (h1 : j ≤ m) : tz_dv (2 ^ m) k d % 2 ^ j = if k = 0 then 0 else d 0 % 2 ^ j := by
  cases k with
  | zero => simp [tz_dv]
  | succ k =>
    show (d 0 + 2 ^ m * tz_dv (2 ^ m) k (fun i => d (i + 1))) % 2 ^ j = _
    rw [if_neg (by omega), show 2 ^ m = 2 ^ j * 2 ^ (m - j) by rw [← Nat.pow_add]; congr 1; omega, Nat.mul_assoc, Nat.add_mul_mod_self_left]
theorem tz_dv_shr {m j : Nat} (h0 : j ≤ m) : ∀ {k : Nat} {d : Nat → Nat}, tz_dv (2 ^ m) k d / 2 ^ j = tz_dv (2 ^ m) k (fun i => d i / 2 ^ j + 2 ^ (m - j) * (if i + 1 = k then 0 else d (i + 1) % 2 ^ j))
  | 0, _ => by simp [tz_dv]
  | k + 1, d => by
    have h1 := tz_dv_shr h0 (k := k) (d := fun i => d (i + 1))
    have h2 := tz_dv_mod (m := m) (j := j) (k := k) (d := fun i => d (i + 1)) h0
    have h3 := Nat.div_add_mod (tz_dv (2 ^ m) k (fun i => d (i + 1))) (2 ^ j)
    have h4 : 2 ^ m = 2 ^ j * 2 ^ (m - j) := by rw [← Nat.pow_add]; congr 1; omega
    show (d 0 + 2 ^ m * tz_dv (2 ^ m) k (fun i => d (i + 1))) / 2 ^ j = d 0 / 2 ^ j + 2 ^ (m - j) * (if 0 + 1 = k + 1 then 0 else d (0 + 1) % 2 ^ j) + 2 ^ m * tz_dv (2 ^ m) k (fun i => d (i + 1) / 2 ^ j + 2 ^ (m - j) * (if i + 1 + 1 = k + 1 then 0 else d (i + 1 + 1) % 2 ^ j))
    have h5 : tz_dv (2 ^ m) k (fun i => d (i + 1) / 2 ^ j + 2 ^ (m - j) * (if i + 1 + 1 = k + 1 then 0 else d (i + 1 + 1) % 2 ^ j)) = tz_dv (2 ^ m) k (fun i => d (i + 1) / 2 ^ j + 2 ^ (m - j) * (if i + 1 = k then 0 else d (i + 1 + 1) % 2 ^ j)) := by
      refine tz_dv_eq fun i hi => ?_
      by_cases c1 : i + 1 = k
      · rw [if_pos c1, if_pos (by omega)]
      · rw [if_neg c1, if_neg (by omega)]
    have h6 : (if 0 + 1 = k + 1 then 0 else d (0 + 1) % 2 ^ j) = (if k = 0 then 0 else d (0 + 1) % 2 ^ j) := by
      by_cases c1 : k = 0
      · rw [if_pos c1, if_pos (by omega)]
      · rw [if_neg c1, if_neg (by omega)]
    rw [h5, ← h1, h6, ← h2]
    have h7 : (d 0 + 2 ^ m * tz_dv (2 ^ m) k (fun i => d (i + 1))) / 2 ^ j = d 0 / 2 ^ j + 2 ^ (m - j) * tz_dv (2 ^ m) k (fun i => d (i + 1)) := by
      rw [h4, Nat.mul_assoc, Nat.add_mul_div_left _ _ (Nat.two_pow_pos j)]
    rw [h7]
    have h8 : 2 ^ (m - j) * tz_dv (2 ^ m) k (fun i => d (i + 1)) = 2 ^ (m - j) * (2 ^ j * (tz_dv (2 ^ m) k (fun i => d (i + 1)) / 2 ^ j) + tz_dv (2 ^ m) k (fun i => d (i + 1)) % 2 ^ j) := by rw [h3]
    rw [h8, Nat.mul_add, ← Nat.mul_assoc, Nat.mul_comm (2 ^ (m - j)) (2 ^ j), ← h4]
    omega
/-- the digits of a number -/
theorem tz_dv_of {c : Nat} (hc : 0 < c) : ∀ {k n : Nat}, n < c ^ k → tz_dv c k (fun i => n / c ^ i % c) = n
  | 0, n, h1 => by simp at h1; subst h1; rfl
  | k + 1, n, h1 => by
    have h2 : n / c < c ^ k := by rw [Nat.div_lt_iff_lt_mul hc, ← Nat.pow_succ]; exact h1
    have h3 := tz_dv_of hc h2
    show n / c ^ 0 % c + c * tz_dv c k (fun i => n / c ^ (i + 1) % c) = n
    have h4 : tz_dv c k (fun i => n / c ^ (i + 1) % c) = tz_dv c k (fun i => n / c / c ^ i % c) := tz_dv_eq fun i _ => by
      rw [Nat.div_div_eq_div_mul, Nat.pow_succ, Nat.mul_comm]
    rw [h4, h3, Nat.pow_zero, Nat.div_one]
    have := Nat.div_add_mod n c
    omega
def tz_ns (f : Nat → Nat) : Nat → Nat
  | 0 => 0
  | n + 1 => tz_ns f n + f n
theorem tz_ns_eq {f g : Nat → Nat} : ∀ {n : Nat}, (∀ i, i < n → f i = g i) → tz_ns f n = tz_ns g n
  | 0, _ => rfl
  | n + 1, h1 => by
    show tz_ns f n + f n = tz_ns g n + g n
    rw [tz_ns_eq (n := n) (fun i h3 => h1 i (by omega)), h1 n (by omega)]
theorem tz_ns_pair {f : Nat → Nat} : ∀ {n : Nat}, tz_ns (fun i => f (2 * i) + f (2 * i + 1)) n = tz_ns f (2 * n)
  | 0 => rfl
  | n + 1 => by
    show tz_ns (fun i => f (2 * i) + f (2 * i + 1)) n + (f (2 * n) + f (2 * n + 1)) = tz_ns f (2 * n) + f (2 * n) + f (2 * n + 1)
    rw [tz_ns_pair (n := n)]; omega
def tz_u (x : Int64) : Nat := x.toBitVec.toNat
theorem tz_u_lt (x : Int64) : tz_u x < 18446744073709551616 := x.toBitVec.isLt
theorem tz_u_sub {x y : Int64} (h1 : tz_u y ≤ tz_u x) : tz_u (x - y) = tz_u x - tz_u y := by
  have h2 : tz_u (x - y) = (2 ^ 64 - tz_u y + tz_u x) % 2 ^ 64 := BitVec.toNat_sub x.toBitVec y.toBitVec
  have h3 := tz_u_lt x
  omega
theorem tz_u_add {x y : Int64} (h1 : tz_u x + tz_u y < 18446744073709551616) : tz_u (x + y) = tz_u x + tz_u y := by
  have h2 : tz_u (x + y) = (tz_u x + tz_u y) % 2 ^ 64 := BitVec.toNat_add x.toBitVec y.toBitVec
  omega
theorem tz_u_and {x y : Int64} : tz_u (x &&& y) = tz_u x &&& tz_u y := BitVec.toNat_and x.toBitVec y.toBitVec
theorem tz_u_shr {x : Int64} {n : Nat} (h1 : n < 64) : tz_u (ts_lushr x (n : Int)) = tz_u x / 2 ^ n := by
  unfold tz_u ts_lushr
  show ((x.toUInt64 >>> _).toBitVec).toNat = _
  rw [UInt64.toBitVec_shiftRight, BitVec.ushiftRight_eq', tz_sr_amt ⟨n, h1⟩, BitVec.toNat_ushiftRight, Nat.shiftRight_eq_div_pow]
  rfl
theorem tz_u_bit {x : Int64} {k : Nat} : tz_i (tz_bit x k) = ((tz_u x / 2 ^ k % 2 : Nat) : Int) := by
  have h1 : tz_bit x k = (tz_u x).testBit k := rfl
  rw [h1, Nat.testBit_eq_decide_div_mod_eq]
  by_cases c1 : tz_u x / 2 ^ k % 2 = 1
  · rw [decide_eq_true c1, c1]; rfl
  · have c2 : tz_u x / 2 ^ k % 2 = 0 := by omega
    rw [decide_eq_false c1, c2]; rfl
theorem tz_u_low {x : Int64} : ts_and (ts_l2i x) 127 = ((tz_u x % 128 : Nat) : Int) := by
  have h1 : (ts_I (ts_l2i x) &&& ts_I 127).toBitVec.toNat = tz_u x % 128 := by
    have h2 : ts_I (ts_l2i x) = x.toInt32 := Int32.ofInt_toInt _
    have h3 : x.toInt32.toBitVec = x.toBitVec.setWidth 32 := by
      show x.toBitVec.signExtend 32 = _
      rw [BitVec.signExtend_eq_setWidth_of_le _ (by decide)]
    have h4 : (ts_I 127).toBitVec.toNat = 2 ^ 7 - 1 := rfl
    rw [h2, Int32.toBitVec_and, BitVec.toNat_and, h3, h4, Nat.and_two_pow_sub_one_eq_mod, BitVec.toNat_setWidth]
    show tz_u x % 2 ^ 32 % 2 ^ 7 = _
    omega
  show ((ts_I (ts_l2i x) &&& ts_I 127).toBitVec).toInt = _
  rw [BitVec.toInt_eq_toNat_of_lt (by rw [h1]; omega), h1]
set_option maxHeartbeats 400000 in
theorem tz_pop_end (y0 y1 y2 y3 y4 y5 y6 y7 : Nat) (l0 : y0 ≤ 8) (l1 : y1 ≤ 8) (l2 : y2 ≤ 8) (l3 : y3 ≤ 8) (l4 : y4 ≤ 8) (l5 : y5 ≤ 8) (l6 : y6 ≤ 8) (l7 : y7 ≤ 8) (n3 n4 n5 n6 : Nat) (d1 : n3 = y0 + 256 * (y1 + 256 * (y2 + 256 * (y3 + 256 * (y4 + 256 * (y5 + 256 * (y6 + 256 * (y7 + 256 * 0)))))))) (e4 : n4 = n3 + n3 / 256) (e5 : n5 = n4 + n4 / 65536) (e6 : n6 = n5 + n5 / 4294967296) :
    n6 < 18446744073709551616 ∧ n6 % 128 = y0 + y1 + y2 + y3 + y4 + y5 + y6 + y7 := by
  obtain ⟨x6, hx6⟩ : ∃ x, x = y6 + 256 * y7 := ⟨_, rfl⟩
  obtain ⟨x5, hx5⟩ : ∃ x, x = y5 + 256 * x6 := ⟨_, rfl⟩
  obtain ⟨x4, hx4⟩ : ∃ x, x = y4 + 256 * x5 := ⟨_, rfl⟩
  obtain ⟨x3, hx3⟩ : ∃ x, x = y3 + 256 * x4 := ⟨_, rfl⟩
  obtain ⟨x2, hx2⟩ : ∃ x, x = y2 + 256 * x3 := ⟨_, rfl⟩
  obtain ⟨x1, hx1⟩ : ∃ x, x = y1 + 256 * x2 := ⟨_, rfl⟩
  have d2 : n3 = y0 + 256 * x1 := by rw [d1, hx1, hx2, hx3, hx4, hx5, hx6, Nat.mul_zero, Nat.add_zero]
  clear d1
  have b6 : x6 ≤ 2056 := by omega
  have b5 : x5 ≤ 526344 := by omega
  have b4 : x4 ≤ 134744072 := by omega
  have b3 : x3 ≤ 34494482440 := by omega
  have b2 : x2 ≤ 8830587504648 := by omega
  have b1 : x1 ≤ 2260630401189896 := by omega
  have k4 : n4 = (y0 + y1) + 256 * ((y1 + y2) + 256 * (x2 + x3)) := by
    have q1 : n3 / 256 = x1 := by omega
    rw [e4, q1]; omega
  have k5 : n5 = (y0 + y1 + y2 + y3) + 256 * ((y1 + y2 + y3 + y4) + 256 * ((x2 + x3) + (x4 + x5))) := by
    have q1 : n4 / 65536 = x2 + x3 := by omega
    rw [e5, q1]; omega
  have k5b : n5 = (y0 + y1 + y2 + y3) + 256 * ((y1 + y2 + y3 + y4) + 256 * ((y2 + y3 + y4 + y5) + 256 * ((y3 + y4 + y5 + y6) + 256 * ((x4 + x5) + (x6 + y7))))) := by
    rw [k5]; omega
  have k6 : n5 / 4294967296 = (x4 + x5) + (x6 + y7) := by
    clear k5 k4 e4 e5 d2
    omega
  have k7 : n6 = n5 + ((x4 + x5) + (x6 + y7)) := by rw [e6, k6]
  refine ⟨by clear k5 k4 e4 e5 d2 e6 k6; omega, ?_⟩
  have k8 : x4 + x5 + (x6 + y7) = (y4 + y5 + y6 + y7) + 256 * (x5 + x6 + y7) := by omega
  clear k5 k4 e4 e5 d2 e6 k6
  rw [k7, k5b, k8]
  omega
set_option maxHeartbeats 1000000 in
theorem tz_pop_nat (n : Nat) (hn : n < 18446744073709551616) (n1 n2 n3 n4 n5 n6 : Nat) (e1 : n1 = n - (n / 2 &&& 6148914691236517205)) (e2 : n2 = (n1 &&& 3689348814741910323) + (n1 / 4 &&& 3689348814741910323)) (e3 : n3 = (n2 + n2 / 16) &&& 1085102592571150095) (e4 : n4 = n3 + n3 / 256) (e5 : n5 = n4 + n4 / 65536) (e6 : n6 = n5 + n5 / 4294967296) :
    (n / 2 &&& 6148914691236517205) ≤ n ∧ n2 < 18446744073709551616 ∧ n2 + n2 / 16 < 18446744073709551616 ∧ n6 < 18446744073709551616 ∧ n6 % 128 = tz_ns (fun k => n / 2 ^ k % 2) 64 := by
  have t0 : tz_dv (2 ^ 2) 32 (fun i => n / 4 ^ i % 4) = n := tz_dv_of (c := 4) (by decide) (by rw [show (4 : Nat) ^ 32 = 18446744073709551616 by decide]; exact hn)
  have tl : ∀ i, n / 4 ^ i % 4 < 4 := fun i => Nat.mod_lt _ (by decide)
  have m5 : (6148914691236517205 : Nat) = tz_dv (2 ^ 2) 32 (fun _ => 1) := by decide +kernel
  have m3 : (3689348814741910323 : Nat) = tz_dv (2 ^ 4) 16 (fun _ => 3) := by decide +kernel
  have mf : (1085102592571150095 : Nat) = tz_dv (2 ^ 8) 8 (fun _ => 15) := by decide +kernel
  have a1 : n / 2 &&& 6148914691236517205 = tz_dv (2 ^ 2) 32 (fun i => n / 4 ^ i % 4 / 2) := by
    have q1 := tz_dv_shr (m := 2) (j := 1) (by decide) (k := 32) (d := fun i => n / 4 ^ i % 4)
    rw [t0] at q1
    rw [show n / 2 = n / 2 ^ 1 by rw [Nat.pow_one], q1, m5, tz_dv_and]
    · refine tz_dv_eq fun i hi => ?_
      have := tl i
      rw [Nat.and_one_is_mod]
      split <;> omega
    · intro i hi
      have := tl i
      have := tl (i + 1)
      split <;> omega
    · intro i hi; decide
  have a2 : tz_dv (2 ^ 2) 32 (fun i => n / 4 ^ i % 4 / 2) + tz_dv (2 ^ 2) 32 (fun i => n / 4 ^ i % 4 - n / 4 ^ i % 4 / 2) = n := by
    rw [tz_dv_add]
    refine Eq.trans (tz_dv_eq fun i hi => ?_) t0
    have := tl i
    omega
  have b1 : n1 = tz_dv (2 ^ 2) 32 (fun i => n / 4 ^ i % 4 - n / 4 ^ i % 4 / 2) := by rw [e1, a1]; omega
  have ul : ∀ i, n / 4 ^ i % 4 - n / 4 ^ i % 4 / 2 ≤ 2 := fun i => by have := tl i; omega
  generalize hu : (fun i => n / 4 ^ i % 4 - n / 4 ^ i % 4 / 2) = u at b1
  have ul2 : ∀ i, u i ≤ 2 := fun i => by rw [← hu]; exact ul i
  have b2 : n1 = tz_dv (2 ^ 4) 16 (fun i => u (2 * i) + 4 * u (2 * i + 1)) := by
    rw [b1]; exact tz_dv_pair (c := 2 ^ 2) (k := 16) (d := u)
  have c1 : n1 &&& 3689348814741910323 = tz_dv (2 ^ 4) 16 (fun i => u (2 * i)) := by
    rw [b2, m3, tz_dv_and]
    · refine tz_dv_eq fun i hi => ?_
      have := ul2 (2 * i)
      rw [show (3 : Nat) = 2 ^ 2 - 1 by decide, Nat.and_two_pow_sub_one_eq_mod]
      omega
    · intro i hi
      have := ul2 (2 * i)
      have := ul2 (2 * i + 1)
      omega
    · intro i hi; decide
  have c2 : n1 / 4 &&& 3689348814741910323 = tz_dv (2 ^ 4) 16 (fun i => u (2 * i + 1)) := by
    have q1 := tz_dv_shr (m := 4) (j := 2) (by decide) (k := 16) (d := fun i => u (2 * i) + 4 * u (2 * i + 1))
    rw [← b2] at q1
    rw [show n1 / 4 = n1 / 2 ^ 2 by rfl, q1, m3, tz_dv_and]
    · refine tz_dv_eq fun i hi => ?_
      have := ul2 (2 * i)
      have := ul2 (2 * i + 1)
      rw [show (3 : Nat) = 2 ^ 2 - 1 by decide, Nat.and_two_pow_sub_one_eq_mod]
      split <;> omega
    · intro i hi
      have := ul2 (2 * i)
      have := ul2 (2 * i + 1)
      split <;> omega
    · intro i hi; decide
  have c3 : n2 = tz_dv (2 ^ 4) 16 (fun i => u (2 * i) + u (2 * i + 1)) := by rw [e2, c1, c2, tz_dv_add]
  generalize hv : (fun i => u (2 * i) + u (2 * i + 1)) = v at c3
  have vl : ∀ i, v i ≤ 4 := fun i => by rw [← hv]; have := ul2 (2 * i); have := ul2 (2 * i + 1); show u (2 * i) + u (2 * i + 1) ≤ 4; omega
  have c4 : n2 = tz_dv (2 ^ 8) 8 (fun i => v (2 * i) + 16 * v (2 * i + 1)) := by
    rw [c3]; exact tz_dv_pair (c := 2 ^ 4) (k := 8) (d := v)
  have c5 := tz_dv_shr (m := 8) (j := 4) (by decide) (k := 8) (d := fun i => v (2 * i) + 16 * v (2 * i + 1))
  rw [← c4, show n2 / 2 ^ 4 = n2 / 16 by rfl] at c5
  have c6 : n2 + n2 / 16 = tz_dv (2 ^ 8) 8 (fun i => (v (2 * i) + 16 * v (2 * i + 1)) + ((v (2 * i) + 16 * v (2 * i + 1)) / 2 ^ 4 + 2 ^ (8 - 4) * (if i + 1 = 8 then 0 else (v (2 * (i + 1)) + 16 * v (2 * (i + 1) + 1)) % 2 ^ 4))) := by
    rw [c5]; conv => lhs; lhs; rw [c4]
    rw [tz_dv_add]
  have dl : ∀ i, i < 8 → (v (2 * i) + 16 * v (2 * i + 1)) + ((v (2 * i) + 16 * v (2 * i + 1)) / 2 ^ 4 + 2 ^ (8 - 4) * (if i + 1 = 8 then 0 else (v (2 * (i + 1)) + 16 * v (2 * (i + 1) + 1)) % 2 ^ 4)) < 2 ^ 8 := by
    intro i hi
    have := vl (2 * i)
    have := vl (2 * i + 1)
    have := vl (2 * (i + 1))
    split <;> omega
  have c7 : n2 + n2 / 16 < 18446744073709551616 := by
    rw [c6]
    exact tz_dv_lt dl
  have c8 : n3 = tz_dv (2 ^ 8) 8 (fun i => v (2 * i) + v (2 * i + 1)) := by
    rw [e3, c6, mf, tz_dv_and dl]
    · refine tz_dv_eq fun i hi => ?_
      have := vl (2 * i)
      have := vl (2 * i + 1)
      rw [show (15 : Nat) = 2 ^ 4 - 1 by decide, Nat.and_two_pow_sub_one_eq_mod]
      split <;> omega
    · intro i hi; decide
  generalize hy : (fun i => v (2 * i) + v (2 * i + 1)) = y at c8
  have yl : ∀ i, y i ≤ 8 := fun i => by rw [← hy]; have := vl (2 * i); have := vl (2 * i + 1); show v (2 * i) + v (2 * i + 1) ≤ 8; omega
  have d1 : n3 = y 0 + 256 * (y 1 + 256 * (y 2 + 256 * (y 3 + 256 * (y 4 + 256 * (y 5 + 256 * (y 6 + 256 * (y 7 + 256 * 0))))))) := c8
  have s1 : tz_ns (fun k => n / 2 ^ k % 2) 64 = tz_ns y 8 := by
    rw [← hy, tz_ns_pair (n := 8) (f := v), ← hv, tz_ns_pair (n := 16) (f := u), ← tz_ns_pair (n := 32) (f := fun k => n / 2 ^ k % 2)]
    refine tz_ns_eq fun i hi => ?_
    rw [← hu]
    have q1 : n / 2 ^ (2 * i) = n / 4 ^ i := by rw [Nat.pow_mul]
    have q2 : n / 2 ^ (2 * i + 1) = n / 4 ^ i / 2 := by rw [Nat.pow_succ, Nat.pow_mul, Nat.div_div_eq_div_mul]
    show n / 2 ^ (2 * i) % 2 + n / 2 ^ (2 * i + 1) % 2 = n / 4 ^ i % 4 - n / 4 ^ i % 4 / 2
    rw [q1, q2]
    omega
  have s2 : tz_ns y 8 = y 0 + y 1 + y 2 + y 3 + y 4 + y 5 + y 6 + y 7 := by
    show 0 + y 0 + y 1 + y 2 + y 3 + y 4 + y 5 + y 6 + y 7 = _
    omega
  have l0 := yl 0
  have l1 := yl 1
  have l2 := yl 2
  have l3 := yl 3
  have l4 := yl 4
  have l5 := yl 5
  have l6 := yl 6
  have l7 := yl 7
  have st := tz_pop_end (y 0) (y 1) (y 2) (y 3) (y 4) (y 5) (y 6) (y 7) l0 l1 l2 l3 l4 l5 l6 l7 n3 n4 n5 n6 d1 e4 e5 e6
  have lt2 : n2 < 18446744073709551616 := by omega
  refine ⟨by rw [a1]; omega, lt2, c7, st.1, ?_⟩
  rw [s1, s2, st.2]
theorem tz_pop {x : Int64} {Q : Int → ts_M → Prop} {M : ts_M} : wJ13_bitCount_95d88 x Q M ↔ Q (tz_sum (fun k => tz_i (tz_bit x k.toNat)) 64) M := by
  have s0 : ∀ m : Nat, tz_sum (fun k => tz_i (tz_bit x k.toNat)) m = ((tz_ns (fun k => tz_u x / 2 ^ k % 2) m : Nat) : Int) := by
    intro m
    induction m with
    | zero => rfl
    | succ m ihm =>
      show tz_sum (fun k => tz_i (tz_bit x k.toNat)) m + tz_i (tz_bit x (m : Int).toNat) = ((tz_ns (fun k => tz_u x / 2 ^ k % 2) m + tz_u x / 2 ^ m % 2 : Nat) : Int)
      rw [ihm, Int.toNat_natCast, tz_u_bit, Int.natCast_add]
  obtain ⟨r1, r2, r3, r4, r5⟩ := tz_pop_nat (tz_u x) (tz_u_lt x) _ _ _ _ _ _ rfl rfl rfl rfl rfl rfl
  unfold wJ13_bitCount_95d88
  simp only [forall_eq]
  rw [s0, ← r5]
  have k1 : tz_u (ts_lushr x 1 &&& 6148914691236517205) = (tz_u x / 2 &&& 6148914691236517205) := by
    rw [tz_u_and, show (1 : Int) = ((1 : Nat) : Int) by rfl, tz_u_shr (by decide), Nat.pow_one]; rfl
  have g1 : tz_u (x - (ts_lushr x 1 &&& 6148914691236517205)) = tz_u x - (tz_u x / 2 &&& 6148914691236517205) := by
    rw [tz_u_sub (by rw [k1]; exact r1), k1]
  generalize x - (ts_lushr x 1 &&& 6148914691236517205) = x1 at g1 ⊢
  rw [← g1] at r2 r3 r4 ⊢
  have g2 : tz_u ((x1 &&& 3689348814741910323) + (ts_lushr x1 2 &&& 3689348814741910323)) = (tz_u x1 &&& 3689348814741910323) + (tz_u x1 / 4 &&& 3689348814741910323) := by
    have k2 : tz_u (ts_lushr x1 2 &&& 3689348814741910323) = (tz_u x1 / 4 &&& 3689348814741910323) := by
      rw [tz_u_and, show (2 : Int) = ((2 : Nat) : Int) by rfl, tz_u_shr (by decide)]; rfl
    have k3 : tz_u (x1 &&& 3689348814741910323) = (tz_u x1 &&& 3689348814741910323) := by rw [tz_u_and]; rfl
    rw [tz_u_add (by rw [k2, k3]; exact r2), k2, k3]
  generalize (x1 &&& 3689348814741910323) + (ts_lushr x1 2 &&& 3689348814741910323) = x2 at g2 ⊢
  rw [← g2] at r3 r4 ⊢
  have g3 : tz_u ((x2 + ts_lushr x2 4) &&& 1085102592571150095) = ((tz_u x2 + tz_u x2 / 16) &&& 1085102592571150095) := by
    have k2 : tz_u (ts_lushr x2 4) = tz_u x2 / 16 := by
      rw [show (4 : Int) = ((4 : Nat) : Int) by rfl, tz_u_shr (by decide)]
    rw [tz_u_and, tz_u_add (by rw [k2]; exact r3), k2]; rfl
  generalize (x2 + ts_lushr x2 4) &&& 1085102592571150095 = x3 at g3 ⊢
  rw [← g3] at r4 ⊢
  have g4 : tz_u (x3 + ts_lushr x3 8) = tz_u x3 + tz_u x3 / 256 := by
    have k2 : tz_u (ts_lushr x3 8) = tz_u x3 / 256 := by
      rw [show (8 : Int) = ((8 : Nat) : Int) by rfl, tz_u_shr (by decide)]
    rw [tz_u_add (by rw [k2]; omega), k2]
  generalize x3 + ts_lushr x3 8 = x4 at g4 ⊢
  rw [← g4] at r4 ⊢
  have g5 : tz_u (x4 + ts_lushr x4 16) = tz_u x4 + tz_u x4 / 65536 := by
    have k2 : tz_u (ts_lushr x4 16) = tz_u x4 / 65536 := by
      rw [show (16 : Int) = ((16 : Nat) : Int) by rfl, tz_u_shr (by decide)]
    rw [tz_u_add (by rw [k2]; omega), k2]
  generalize x4 + ts_lushr x4 16 = x5 at g5 ⊢
  rw [← g5] at r4 ⊢
  have g6 : tz_u (x5 + ts_lushr x5 32) = tz_u x5 + tz_u x5 / 4294967296 := by
    have k2 : tz_u (ts_lushr x5 32) = tz_u x5 / 4294967296 := by
      rw [show (32 : Int) = ((32 : Nat) : Int) by rfl, tz_u_shr (by decide)]
    rw [tz_u_add (by rw [k2]; exact r4), k2]
  rw [tz_u_low, g6]
