/-! ===== what stands at the start ===== -/
def st_fl : List Cond := flatC (Jvm.Cond.and given_1 narrow_1)
/-- the forms' constants and the kinds of motion -/
def st_ky : List (String × Nat) := [("TeaspoonSalon$Command", 64), ("TeaspoonSalon$Command", 70), ("TeaspoonSalon$Command", 73), ("TeaspoonSalon$Command", 76), ("TeaspoonSalon$Command", 79), ("TeaspoonSalon$Command", 82), ("TeaspoonSalon$Command", 85), ("TeaspoonSalon$Command", 88), ("TeaspoonSalon$Command", 91), ("TeaspoonSalon$Command", 94), ("TeaspoonSalon$Command", 97), ("TeaspoonSalon$Command", 100), ("TeaspoonSalon$Table", 41)]
/-- the other constants -/
def st_kx : List (String × Nat) := [("TeaspoonSalon", 433), ("TeaspoonSalon", 438), ("TeaspoonSalon", 443), ("TeaspoonSalon", 448), ("TeaspoonSalon", 455), ("TeaspoonSalon", 471), ("TeaspoonSalon", 478), ("TeaspoonSalon", 480), ("TeaspoonSalon", 159), ("TeaspoonSalon", 172), ("TeaspoonSalon", 177), ("TeaspoonSalon", 194), ("TeaspoonSalon", 482), ("TeaspoonSalon", 476), ("TeaspoonSalon", 290), ("TeaspoonSalon", 301), ("TeaspoonSalon", 317), ("TeaspoonSalon", 326), ("TeaspoonSalon", 359), ("TeaspoonSalon", 365), ("TeaspoonSalon", 372), ("TeaspoonSalon", 385), ("TeaspoonSalon", 390), ("TeaspoonSalon", 401), ("TeaspoonSalon", 403), ("TeaspoonSalon", 406), ("TeaspoonSalon", 411)]
def st_sa : List Nat := [1602, 1615, 1628, 1638, 1649, 1661, 1670, 1681, 1692, 1700, 1714, 1724, 721]
def st_zi : List Nat := [730, 765, 811, 845, 884, 911, 937, 967, 1002, 1034, 1068, 1114, 1149, 1171, 1196, 1221, 1255, 1278, 1299, 1336, 1369, 1398, 1444, 1478, 1516, 1550, 1578]
def st_ci : List Nat := [217, 268, 278, 289, 301, 314, 328, 343, 359, 376, 394, 413]
def st_ri : List Nat := [242, 220, 238, 260, 247, 253]
def st_cd : List Nat := [0, 271, 281, 292, 304, 317, 331, 346, 362, 379, 397, 416, 271, 0, 288, 299, 311, 324, 338, 353, 369, 386, 404, 423, 281, 288, 0, 300, 312, 325, 339, 354, 370, 387, 405, 424, 292, 299, 300, 0, 313, 326, 340, 355, 371, 388, 406, 425, 304, 311, 312, 313, 0, 327, 341, 356, 372, 389, 407, 426, 317, 324, 325, 326, 327, 0, 342, 357, 373, 390, 408, 427, 331, 338, 339, 340, 341, 342, 0, 358, 374, 391, 409, 428, 346, 353, 354, 355, 356, 357, 358, 0, 375, 392, 410, 429, 362, 369, 370, 371, 372, 373, 374, 375, 0, 393, 411, 430, 379, 386, 387, 388, 389, 390, 391, 392, 393, 0, 412, 431, 397, 404, 405, 406, 407, 408, 409, 410, 411, 412, 0, 432, 416, 423, 424, 425, 426, 427, 428, 429, 430, 431, 432, 0]
def st_rd : List Nat := [0, 245, 246, 265, 252, 258, 245, 0, 241, 263, 250, 256, 246, 241, 0, 264, 251, 257, 265, 263, 264, 0, 266, 267, 252, 250, 251, 266, 0, 259, 258, 256, 257, 267, 259, 0]
def st_lc : List Nat := [1096, 1402, 1413, 1422, 1431, 1440, 1449, 1461, 1470, 1479, 1488, 1497]
def st_lr : List Nat := [1123, 1106, 1121, 1157, 1133, 1147]
abbrev st_k1 (i : Nat) : Term := .string (st_ky.getD i ("", 0)).1 (st_ky.getD i ("", 0)).2
abbrev st_k2 (i : Nat) : Term := .field (st_k1 i) "java/lang/String" "value" "[B"
abbrev st_cm (i : Nat) : Term := .static RX2 (ts_cmds.getD i "") "LTeaspoonSalon$Command;"
abbrev st_rm (i : Nat) : Term := .static RX6 (ts_rfs.getD i "") "LTeaspoonSalon$Refusal;"
theorem st_s0 : ∀ i : Nat, i < 13 → st_fl[st_sa.getD i 0]? = some (Cond.exactly (st_k1 i) "java/lang/String") := by decide +kernel
theorem st_s1 : ∀ i : Nat, i < 13 → st_fl[st_sa.getD i 0 + 1]? = some (Cond.eq (.field (st_k1 i) "java/lang/String" "coder" "B") (.int 0)) := by decide +kernel
theorem st_s2 : ∀ i : Nat, i < 13 → st_fl[st_sa.getD i 0 + 2]? = some (Cond.arrayOf (st_k2 i) .byte) := by decide +kernel
theorem st_s3 : ∀ i : Nat, i < 13 → st_fl[st_sa.getD i 0 + 3]? = some (Cond.eq (.length (st_k2 i)) (.int (Int32.ofNat (ts_len.getD i 0)))) := by decide +kernel
theorem st_s4 : ∀ i : Nat, i < 13 → ∀ j : Nat, j < ts_len.getD i 0 → st_fl[st_sa.getD i 0 + 4 + j]? = some (Cond.eq (.elem (st_k2 i) (.int (Int32.ofNat j))) (.int ((ts_byt.getD i []).getD j 0))) := by decide +kernel
theorem st_s5 : ∀ i : Nat, i < 13 → ts_len.getD i 0 < 2 ^ 31 := by decide +kernel
theorem st_z0 : ∀ i : Nat, i < 27 → st_fl[st_zi.getD i 0]? = some (Cond.exactly (.string (st_kx.getD i ("", 0)).1 (st_kx.getD i ("", 0)).2) "java/lang/String") := by decide +kernel
theorem st_c0 : ∀ i : Nat, i < ts_cmds.length → st_fl[st_ci.getD i 0]? = some (Cond.exactly (st_cm i) RX2) := by decide +kernel
theorem st_c1 : ∀ i : Nat, i < ts_cmds.length → st_fl[st_ci.getD i 0 + 1]? = some (Cond.eq (.field (st_cm i) "java/lang/Enum" "ordinal" "I") (.int (([0, 1, 2, 3, 4, 5, 6, 7, 8, 9, 10, 11] : List Int32).getD i 0))) := by decide +kernel
theorem st_c2 : ∀ i : Nat, i < 12 → st_fl[st_ci.getD i 0 + 2]? = some (Cond.eq (.field (st_cm i) RX2 "form" "Ljava/lang/String;") (st_k1 i)) := by decide +kernel
theorem st_c3 : ∀ i : Nat, i < ts_cmds.length → ∀ j : Nat, j < ts_cmds.length → i ≠ j → st_fl[st_cd.getD (12 * i + j) 0]? = some (Cond.not (.eq (st_cm i) (st_cm j))) ∨ st_fl[st_cd.getD (12 * i + j) 0]? = some (Cond.not (.eq (st_cm j) (st_cm i))) := by decide +kernel
theorem st_c4 : ∀ i : Nat, i < ts_cmds.length → lw_tbl[st_lc.getD i 0]? = some (Cond.laysStatic RX2 (ts_cmds.getD i "") "LTeaspoonSalon$Command;") := by decide +kernel
theorem st_r0 : ∀ i : Nat, i < ts_rfs.length → st_fl[st_ri.getD i 0]? = some (Cond.exactly (st_rm i) RX6) := by decide +kernel
theorem st_r3 : ∀ i : Nat, i < ts_rfs.length → ∀ j : Nat, j < ts_rfs.length → i ≠ j → st_fl[st_rd.getD (6 * i + j) 0]? = some (Cond.not (.eq (st_rm i) (st_rm j))) ∨ st_fl[st_rd.getD (6 * i + j) 0]? = some (Cond.not (.eq (st_rm j) (st_rm i))) := by decide +kernel
theorem st_r4 : ∀ i : Nat, i < ts_rfs.length → lw_tbl[st_lr.getD i 0]? = some (Cond.laysStatic RX6 (ts_rfs.getD i "") "LTeaspoonSalon$Refusal;") := by decide +kernel
theorem st_n0 : ∀ q ∈ ts_nc, Cond.not (.castable q.1 q.2) ∈ st_fl := by decide +kernel
def st_sr : List Nat := [1013, 1180, 1192, 1209, 1223, 1240, 1510, 1543, 1556, 1565, 1577, 1585, 1593, 1640, 1653, 1725, 1752, 1772, 1799, 1812, 1820, 1838, 1843, 1897, 1911, 1919, 1927, 1935, 1947]
theorem st_w0 : ∀ i : Nat, i < ts_strs.length → lw_tbl[st_sr.getD i 0]? = some (Cond.stringRef (ts_strs.getD i ("", 0, "", 0)).1 (ts_strs.getD i ("", 0, "", 0)).2.1 (ts_strs.getD i ("", 0, "", 0)).2.2.1) := by decide +kernel
theorem st_w1 : ∀ q ∈ ts_strs, q = ("TeaspoonSalon", 185, "mapcj", 112) ∨ (q.2.2.2 = 112 ∧ (q.1, q.2.1) = st_ky.getD 12 ("", 0)) ∨ (144 ≤ q.2.2.2 ∧ q.2.2.2 - 200 < 27 ∧ st_kx.getD (q.2.2.2 - 200) ("", 0) = (q.1, q.2.1)) := by decide +kernel
def st_dk (i j : Nat) : Nat := ((List.range 4).find? (fun k => (ts_byt.getD i []).getD k 0 != (ts_byt.getD j []).getD k 0)).getD 0
theorem st_df : ∀ i : Nat, i < 13 → ∀ j : Nat, j < 13 → i ≠ j → st_dk i j < ts_len.getD i 0 ∧ st_dk i j < ts_len.getD j 0 ∧ (ts_byt.getD i []).getD (st_dk i j) 0 ≠ (ts_byt.getD j []).getD (st_dk i j) 0 := by decide +kernel
abbrev st_aT : Term := .static RJ6 "DigitTens" "[B"
theorem st_aT0 : st_fl[113]? = some (Cond.arrayOf st_aT .byte) := by decide +kernel
theorem st_aT1 : st_fl[114]? = some (Cond.eq (.length st_aT) (.int (Int32.ofNat 100))) := by decide +kernel
theorem st_aT2 : ∀ j : Nat, j < 100 → st_fl[115 + j]? = some (Cond.eq (.elem st_aT (.int (Int32.ofNat j))) (.int (Int32.ofNat (48 + j / 10)))) := by decide +kernel
abbrev st_aO : Term := .static RJ6 "DigitOnes" "[B"
theorem st_aO0 : st_fl[10]? = some (Cond.arrayOf st_aO .byte) := by decide +kernel
theorem st_aO1 : st_fl[11]? = some (Cond.eq (.length st_aO) (.int (Int32.ofNat 100))) := by decide +kernel
theorem st_aO2 : ∀ j : Nat, j < 100 → st_fl[12 + j]? = some (Cond.eq (.elem st_aO (.int (Int32.ofNat j))) (.int (Int32.ofNat (48 + j % 10)))) := by decide +kernel
abbrev st_aS : Term := .static RX0 "$SwitchMap$TeaspoonSalon$Command" "[I"
theorem st_aS0 : st_fl[224]? = some (Cond.arrayOf st_aS .int) := by decide +kernel
theorem st_aS1 : st_fl[225]? = some (Cond.eq (.length st_aS) (.int (Int32.ofNat 12))) := by decide +kernel
theorem st_aS2 : ∀ j : Nat, j < 12 → st_fl[226 + j]? = some (Cond.eq (.elem st_aS (.int (Int32.ofNat j))) (.int (Int32.ofNat (j + 1)))) := by decide +kernel
abbrev st_aA : Term := .static RX2 "ALL" "[LTeaspoonSalon$Command;"
theorem st_aA0 : st_fl[435]? = some (Cond.arrayOf st_aA (.object RX2)) := by decide +kernel
theorem st_aA1 : st_fl[436]? = some (Cond.eq (.length st_aA) (.int (Int32.ofNat 12))) := by decide +kernel
theorem st_aA2 : ∀ j : Nat, j < 12 → st_fl[438 + j]? = some (Cond.eq (.elem st_aA (.int (Int32.ofNat j))) (st_cm j)) := by decide +kernel
section STA
variable {args : Array Value} {s : State} {A : Nat → Prop}
theorem st_ev {t : Term} {cls : String} (h : (Cond.exactly t cls).before args s = true) : ∃ a : Nat, t.eval args s none [] s = some (.ref a) := by
  obtain ⟨a, c, cell, k, q1, q2, q3, q4, q5, q6, -⟩ := Cond.exactly_spec h
  exact ⟨a, q1⟩
theorem st_O {t : Term} {cls : String} {a : Nat} (h : (Cond.exactly t cls).before args s = true) (he : t.eval args s none [] s = some (.ref a)) (hA : ∀ a : Nat, a < s.heap.size → ¬ A a) : va_O cls a A s s.heap := by
  obtain ⟨b, c, cell, k, q1, q2, q3, q4, q5, q6, -⟩ := Cond.exactly_spec h
  cases q1.symm.trans he
  exact ⟨cell, q3, q5, by rw [q6]; exact q2, hA _ (Array.getElem?_eq_some_iff.mp q3).1⟩
theorem st_eqr {t u : Term} {a : Nat} (h : (Cond.eq t u).before args s = true) (ht : t.eval args s none [] s = some (.ref a)) : u.eval args s none [] s = some (.ref a) := by
  cases hu : u.eval args s none [] s with
  | none => simp [Cond.before, Cond.holds, Cond.value, ht, hu] at h
  | some w =>
    simp only [Cond.before, Cond.holds, Cond.value, ht, hu] at h
    cases w <;> simp_all
theorem st_En_c {E d : String} {nm : List String} {F : List (String × String × String × List Int32)} {ad ad2 : Nat → Nat} {U : State} {H : Heap} (h : ∀ i : Nat, i < nm.length → ad2 i = ad i) (hE : va_En E d nm F ad A U H) : va_En E d nm F ad2 A U H :=
  ⟨fun i hi => by rw [h i hi]; exact hE.1 i hi, fun i j hi hj e => hE.2 i j hi hj (by rw [← h i hi, ← h j hj]; exact e)⟩
theorem st_S_c {N : Nat} {len : List Nat} {byt : List (List Int32)} {k k2 v v2 : Nat → Nat} {U : State} {H : Heap} (h : ∀ i : Nat, i < N → k2 i = k i ∧ v2 i = v i) (hE : vk_S N len byt k v A U H) : vk_S N len byt k2 v2 A U H :=
  ⟨fun i hi => by rw [(h i hi).1, (h i hi).2]; exact hE.1 i hi, fun i j hi hj e => hE.2 i j hi hj (by rw [← (h i hi).1, ← (h j hj).1]; exact e)⟩
theorem st_vT {ty : FieldType} {t N : Nat} {g g2 : Nat → Value} {U : State} {H : Heap} (h : ∀ j : Nat, j < N → g j = g2 j) (hT : va_T ty t N g A U H) : va_T ty t N g2 A U H := by
  obtain ⟨cell, c1, c2, c3, c4, c5, c6, c7⟩ := hT
  exact ⟨cell, c1, c2, c3, c4, c5, fun j hj => by rw [← h j hj]; exact c6 j hj, c7⟩
/-- the forms' texts -/
theorem st_S (hf : ∀ c ∈ st_fl, c.before args s = true) (hA : ∀ a : Nat, a < s.heap.size → ¬ A a) {K : Nat → Nat} (hK : ∀ i : Nat, i < 13 → (st_k1 i).eval args s none [] s = some (.ref (K i))) : ∃ V : Nat → Nat, vk_S 13 ts_len ts_byt K V A s s.heap := by
  have h1 : ∀ i : Nat, ∃ v : Nat, i < 13 → (st_k2 i).eval args s none [] s = some (.ref v) ∧ va_T .byte v (ts_len.getD i 0) (fun j => .int ((ts_byt.getD i []).getD j 0)) A s s.heap := by
    intro i
    by_cases hi : i < 13
    · obtain ⟨v, e1, e2⟩ := va_Tof (tm := st_k2 i) (f := fun j => .int ((ts_byt.getD i []).getD j 0)) (st_s5 i hi) (hf _ (List.mem_of_getElem? (st_s2 i hi))) (va_eqt (hf _ (List.mem_of_getElem? (st_s3 i hi)))) (fun j hj => va_eqt (hf _ (List.mem_of_getElem? (st_s4 i hi j hj)))) hA
      exact ⟨v, fun _ => ⟨e1, e2⟩⟩
    · exact ⟨0, fun h => absurd h hi⟩
  obtain ⟨V, hV⟩ := Classical.axiomOfChoice h1
  refine ⟨V, fun i hi => ⟨st_O (hf _ (List.mem_of_getElem? (st_s0 i hi))) (hK i hi) hA, vk_OFof (hK i hi) (va_eqt (hf _ (List.mem_of_getElem? (st_s1 i hi)))) hA, vk_OFof (hK i hi) (hV i hi).1 hA, (hV i hi).2⟩, fun i j hi hj e => ?_⟩
  by_cases hij : i = j
  · exact hij
  exfalso
  have e1 := (hV i hi).1
  have e2 := (hV j hj).1
  rw [va_fe (hK i hi), e] at e1
  rw [va_fe (hK j hj)] at e2
  have e3 : V i = V j := Value.ref.inj (Option.some.inj (e1.symm.trans e2))
  obtain ⟨cell, c1, c2, c3, c4, c5, c6, c7⟩ := (hV i hi).2
  obtain ⟨cell2, d1, d2, d3, d4, d5, d6, d7⟩ := (hV j hj).2
  rw [e3] at c1
  cases Option.some.inj (c1.symm.trans d1)
  obtain ⟨k1, k2, k3⟩ := st_df i hi j hj hij
  exact k3 (Value.int.inj (Option.some.inj ((c6 _ k1).symm.trans (d6 _ k2))))
/-- the addresses of what stands at the start -/
def st_sx (aC aR aV K G : Nat → Nat) (t1 t2 t3 t4 : Nat) (a : Nat) : Nat := if a < 50 then aC a else if a < 100 then aR (a - 50) else if a < 120 then K (a - 100) else if a < 140 then aV (a - 120) else if a = 140 then t1 else if a = 141 then t2 else if a = 142 then t3 else if a = 143 then t4 else G (a - 200)
theorem st_all (hts : ∀ w ∈ lw_tbl, w.before args s = true) (hf : ∀ c ∈ st_fl, c.before args s = true) (hA : ∀ a : Nat, a < s.heap.size → ¬ A a) : ∃ sx : Nat → Nat, (∀ (γ : ts_γ) (ad : Nat → Nat), ts_Sh (γ.1, γ.2, ad, sx, A) s s.heap) ∧ ∀ q ∈ ts_strs, vk_R q.1 q.2.1 q.2.2.1 (sx q.2.2.2) s := by
  have hk : ∀ i : Nat, ∃ a : Nat, i < 13 → (st_k1 i).eval args s none [] s = some (.ref a) := by
    intro i
    by_cases hi : i < 13
    · obtain ⟨a, ha⟩ := st_ev (hf _ (List.mem_of_getElem? (st_s0 i hi)))
      exact ⟨a, fun _ => ha⟩
    · exact ⟨0, fun h => absurd h hi⟩
  obtain ⟨K, hK⟩ := Classical.axiomOfChoice hk
  have hg : ∀ i : Nat, ∃ a : Nat, i < 27 → (Term.string (st_kx.getD i ("", 0)).1 (st_kx.getD i ("", 0)).2).eval args s none [] s = some (.ref a) := by
    intro i
    by_cases hi : i < 27
    · obtain ⟨a, ha⟩ := st_ev (hf _ (List.mem_of_getElem? (st_z0 i hi)))
      exact ⟨a, fun _ => ha⟩
    · exact ⟨0, fun h => absurd h hi⟩
  obtain ⟨G, hG⟩ := Classical.axiomOfChoice hg
  obtain ⟨V, hV⟩ := st_S (A := A) hf hA hK
  obtain ⟨aC, hC, eC⟩ := va_Enof2 (args := args) (s := s) (A := A) (E := RX2) (d := "LTeaspoonSalon$Command;") (nm := ts_cmds) (F := [("java/lang/Enum", "ordinal", "I", [0, 1, 2, 3, 4, 5, 6, 7, 8, 9, 10, 11])]) (fun i hi => hts _ (List.mem_of_getElem? (st_c4 i hi))) (hts _ (List.mem_of_getElem? (i := 134) (by decide +kernel))) (fun i hi => hf _ (List.mem_of_getElem? (st_c0 i hi)))
    (fun q hq i hi => by
      rw [List.mem_singleton.mp hq]
      exact hf _ (List.mem_of_getElem? (st_c1 i hi)))
    (fun i j hi hj hij => (st_c3 i hi j hj hij).imp (fun h => hf _ (List.mem_of_getElem? h)) (fun h => hf _ (List.mem_of_getElem? h))) hA
  obtain ⟨aR, hR, eR⟩ := va_Enof2 (args := args) (s := s) (A := A) (E := RX6) (d := "LTeaspoonSalon$Refusal;") (nm := ts_rfs) (F := []) (fun i hi => hts _ (List.mem_of_getElem? (st_r4 i hi))) (hts _ (List.mem_of_getElem? (i := 135) (by decide +kernel))) (fun i hi => hf _ (List.mem_of_getElem? (st_r0 i hi))) (fun q hq => absurd hq List.not_mem_nil)
    (fun i j hi hj hij => (st_r3 i hi j hj hij).imp (fun h => hf _ (List.mem_of_getElem? h)) (fun h => hf _ (List.mem_of_getElem? h))) hA
  obtain ⟨t1, x1, y1⟩ := va_Tof (tm := st_aA) (f := fun j => .ref (aC j)) (N := 12) (by decide) (hf _ (List.mem_of_getElem? st_aA0)) (va_eqt (hf _ (List.mem_of_getElem? st_aA1))) (fun j hj => va_eqv (hf _ (List.mem_of_getElem? (st_aA2 j hj))) (eC j hj)) hA
  obtain ⟨t2, x2, y2⟩ := va_Tof (tm := st_aS) (f := fun j => .int (Int32.ofNat (j + 1))) (N := 12) (by decide) (hf _ (List.mem_of_getElem? st_aS0)) (va_eqt (hf _ (List.mem_of_getElem? st_aS1))) (fun j hj => va_eqt (hf _ (List.mem_of_getElem? (st_aS2 j hj)))) hA
  obtain ⟨t3, x3, y3⟩ := va_Tof (tm := st_aT) (f := fun j => .int (Int32.ofNat (48 + j / 10))) (N := 100) (by decide) (hf _ (List.mem_of_getElem? st_aT0)) (va_eqt (hf _ (List.mem_of_getElem? st_aT1))) (fun j hj => va_eqt (hf _ (List.mem_of_getElem? (st_aT2 j hj)))) hA
  obtain ⟨t4, x4, y4⟩ := va_Tof (tm := st_aO) (f := fun j => .int (Int32.ofNat (48 + j % 10))) (N := 100) (by decide) (hf _ (List.mem_of_getElem? st_aO0)) (va_eqt (hf _ (List.mem_of_getElem? st_aO1))) (fun j hj => va_eqt (hf _ (List.mem_of_getElem? (st_aO2 j hj)))) hA
  have z1 : va_Z RX2 "ALL" "[LTeaspoonSalon$Command;" (.ref t1) A s s.heap := va_Zof (hts _ (List.mem_of_getElem? (i := 1864) (by decide +kernel))) (hts _ (List.mem_of_getElem? (i := 134) (by decide +kernel))) x1 hA
  have z2 : va_Z RX0 "$SwitchMap$TeaspoonSalon$Command" "[I" (.ref t2) A s s.heap := va_Zof (hts _ (List.mem_of_getElem? (i := 1108) (by decide +kernel))) (hts _ (List.mem_of_getElem? (i := 136) (by decide +kernel))) x2 hA
  have z3 : va_Z RJ6 "DigitTens" "[B" (.ref t3) A s s.heap := va_Zof (hts _ (List.mem_of_getElem? (i := 806) (by decide +kernel))) (hts _ (List.mem_of_getElem? (i := 153) (by decide +kernel))) x3 hA
  have z4 : va_Z RJ6 "DigitOnes" "[B" (.ref t4) A s s.heap := va_Zof (hts _ (List.mem_of_getElem? (i := 804) (by decide +kernel))) (hts _ (List.mem_of_getElem? (i := 153) (by decide +kernel))) x4 hA
  have z5 : va_Z RJ0 "COMPACT_STRINGS" "Z" (.int 1) A s s.heap := va_Zof (hts _ (List.mem_of_getElem? (i := 405) (by decide +kernel))) (hts _ (List.mem_of_getElem? (i := 130) (by decide +kernel))) (va_eqt (hf _ (List.mem_of_getElem? (i := 4) (by decide +kernel)))) hA
  have z6 : vx_Zq Bundle.tN "UNASSIGNED_STACK" Bundle.steD A s s.heap := vx_Zqof (hts _ (List.mem_of_getElem? (i := 878) (by decide +kernel))) (hts _ (List.mem_of_getElem? (i := 137) (by decide +kernel))) (hf _ (List.mem_of_getElem? (i := 215) (by decide +kernel))) hA
  have z7 : vx_Zq Bundle.tN "SUPPRESSED_SENTINEL" Bundle.listD A s s.heap := vx_Zqof (hts _ (List.mem_of_getElem? (i := 880) (by decide +kernel))) (hts _ (List.mem_of_getElem? (i := 137) (by decide +kernel))) (hf _ (List.mem_of_getElem? (i := 216) (by decide +kernel))) hA
  have z8 : va_Zq "jdk/internal/util/Preconditions" "SIOOBE_FORMATTER" "Ljava/util/function/BiFunction;" A s s.heap := va_Zqof (hts _ (List.mem_of_getElem? (i := 734) (by decide +kernel))) (hts _ (List.mem_of_getElem? (i := 151) (by decide +kernel))) (hf _ (List.mem_of_getElem? (i := 5) (by decide +kernel))) hA
  have g1 : ∀ i : Nat, i < 50 → st_sx aC aR V K G t1 t2 t3 t4 i = aC i := fun i h => if_pos h
  have g2 : ∀ i : Nat, i < 50 → st_sx aC aR V K G t1 t2 t3 t4 (50 + i) = aR i := fun i h => by
    unfold st_sx
    rw [if_neg (by omega), if_pos (by omega), Nat.add_sub_cancel_left]
  have g3 : ∀ i : Nat, i < 20 → st_sx aC aR V K G t1 t2 t3 t4 (100 + i) = K i := fun i h => by
    unfold st_sx
    rw [if_neg (by omega), if_neg (by omega), if_pos (by omega), Nat.add_sub_cancel_left]
  have g4 : ∀ i : Nat, i < 20 → st_sx aC aR V K G t1 t2 t3 t4 (120 + i) = V i := fun i h => by
    unfold st_sx
    rw [if_neg (by omega), if_neg (by omega), if_neg (by omega), if_pos (by omega), Nat.add_sub_cancel_left]
  refine ⟨st_sx aC aR V K G t1 t2 t3 t4, fun γ ad => ⟨z6, z7, ?_, ?_, ?_, ?_, ⟨z1, ?_⟩, ⟨z2, y2⟩, z5, ⟨z3, y3⟩, ⟨z4, y4⟩, z8⟩, fun q hq => ?_⟩
  · exact st_En_c (fun i hi => g1 i (Nat.lt_trans hi (by decide))) hC
  · intro i hi
    show va_OF RX2 "form" "Ljava/lang/String;" (.ref (st_sx aC aR V K G t1 t2 t3 t4 (100 + i))) (st_sx aC aR V K G t1 t2 t3 t4 i) A s s.heap
    rw [g3 i (by omega), g1 i (by omega)]
    exact vk_OFof (eC i hi) (va_eqv (hf _ (List.mem_of_getElem? (st_c2 i hi))) (hK i (by omega))) hA
  · exact st_En_c (fun i hi => g2 i (Nat.lt_trans hi (by decide))) hR
  · exact st_S_c (fun i hi => ⟨g3 i (by omega), g4 i (by omega)⟩) hV
  · exact st_vT (fun j hj => congrArg Value.ref (g1 j (by omega)).symm) y1
  · have hw : (Cond.stringRef q.1 q.2.1 q.2.2.1).before args s = true := by
      obtain ⟨i, hi⟩ := List.getElem?_of_mem hq
      obtain ⟨h1, h2⟩ := List.getElem?_eq_some_iff.mp hi
      have h3 : i < ts_strs.length := h1
      have h4 : ts_strs.getD i ("", 0, "", 0) = q := by rw [List.getD_eq_getElem?_getD, hi]; rfl
      have h5 := st_w0 i h3
      rw [h4] at h5
      exact hts _ (List.mem_of_getElem? h5)
    rcases st_w1 q hq with rfl | ⟨h1, h2⟩ | ⟨h1, h2, h3⟩
    · refine vk_R.of hw ?_
      show (Term.string "TeaspoonSalon" 185).eval args s none [] s = some (.ref (st_sx aC aR V K G t1 t2 t3 t4 (100 + 12)))
      rw [g3 12 (by decide)]
      exact st_eqr (t := st_k1 12) (hf _ (List.mem_of_getElem? (i := 1113) (by decide +kernel))) (hK 12 (by decide))
    · refine vk_R.of hw ?_
      have h3 := hK 12 (by decide)
      rw [h1]
      show _ = some (Value.ref (st_sx aC aR V K G t1 t2 t3 t4 (100 + 12)))
      rw [g3 12 (by decide)]
      have h4 : q.1 = (st_ky.getD 12 ("", 0)).1 := congrArg Prod.fst h2
      have h5 : q.2.1 = (st_ky.getD 12 ("", 0)).2 := congrArg Prod.snd h2
      rw [h4, h5]
      exact h3
    · refine vk_R.of hw ?_
      have h4 := hG (q.2.2.2 - 200) h2
      rw [h3] at h4
      have h5 : st_sx aC aR V K G t1 t2 t3 t4 q.2.2.2 = G (q.2.2.2 - 200) := by
        unfold st_sx
        rw [if_neg (by omega), if_neg (by omega), if_neg (by omega), if_neg (by omega), if_neg (by omega), if_neg (by omega), if_neg (by omega), if_neg (by omega)]
      rw [h5]
      exact h4
theorem st_ncs (hf : ∀ c ∈ st_fl, c.before args s = true) : ∀ q ∈ ts_nc, va_Nc q.1 q.2 s := fun q hq => va_Nc.of (hf _ (st_n0 q hq))
end STA
