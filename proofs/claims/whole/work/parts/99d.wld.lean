/-! ===== the world at the law's first round ===== -/
/-- the address of a cell -/
def st_ad (ad1 : Nat → Nat) (ad2 : Nat → Nat) (ad3 : Nat → Nat) (v4 : Nat) (ad4 : Nat → Nat → Nat) (u4 : Nat) (u5_1 : Nat) (u5_2 : Nat) (u5 : Nat) (u6_1 : Nat) (u6_2 : Nat) (u6_3 : Nat) (u6 : Nat) (u7_1 : Nat) (u7 : Nat) (us : Nat) (um : Nat) (o1 : Nat) (o2 : Nat) (m_v1 : Nat) (m_v2 : Nat) (m_v3 : Nat) (m_v4 : Nat) (m_v5 : Nat) (m_v6 : Nat) (m_v7 : Nat) (m_v8 : Nat) (m_v9 : Nat) (m_v10 : Nat) (a : Nat) : Nat := if a < 154 then (if a / 14 = 0 then ad1 (a % 14) else if a / 14 = 1 then ad2 (a % 14) else if a / 14 = 2 then ad3 (a % 14) else ad4 (a / 14 - 3) (a % 14)) else [us, u5, u5_1, u5_2, u4, v4, u6, u6_1, u6_2, u6_3, um, m_v1, m_v2, m_v3, m_v4, m_v5, m_v6, m_v7, m_v8, m_v9, m_v10, o1, o2, u7].getD (a - 154) 0
/-- the numbers of new objects; u: where the output text's bytes lie -/
def st_f (u : Nat) (a : Nat) : Int → Int := if a < 154 then fun _ => 0 else if a = 154 then (fun k => if k = 8 ∨ k = 9 then -1 else 0) else if a = 162 then fun _ => -1 else if a = 164 then (fun k => if k = 16 ∨ k = 17 then -1 else 0) else if a = 177 then (fun k => if k = 2 then 16 else if k = 3 then (u : Int) else if k = 4 then -1 else 0) else fun _ => 0
def st_M (u : Nat) : ts_M := (st_f u, fun _ _ => 0, fun _ _ => 0)
theorem st_map {α : Type} (f : Nat → α) (n : Nat) : ∀ m : Nat, (List.range (n + m)).map f = (List.range n).map f ++ (List.range m).map (fun c => f (n + c))
  | 0 => by
    rw [Nat.add_zero]
    exact (List.append_nil _).symm
  | m + 1 => by
    rw [show n + (m + 1) = (n + m) + 1 by omega, List.range_succ, List.range_succ, List.map_append, List.map_append, st_map f n m, List.append_assoc]
    rfl
/-- a State's cells -/
def st_b (g : ts_W) (M : ts_M) (b : Nat) : va_W := (List.range 14).map fun c => (ts_ad g (b + c), ts_G g (b + c) (M.1 (b + c)) (M.2.1 (b + c)) (M.2.2 (b + c)))
def st_t (g : ts_W) (M : ts_M) (k : Nat) : va_W := (List.range (177 - 14 * k)).map fun c => (ts_ad g (14 * k + c), ts_G g (14 * k + c) (M.1 (14 * k + c)) (M.2.1 (14 * k + c)) (M.2.2 (14 * k + c)))
theorem st_t_s {g : ts_W} {M : ts_M} {k : Nat} (h : k < 11) : st_t g M k = st_b g M (14 * k) ++ st_t g M (k + 1) := by
  unfold st_t st_b
  rw [show 177 - 14 * k = 14 + (177 - 14 * (k + 1)) by omega, st_map]
  congr 1
  apply List.map_congr_left
  intro c _
  rw [show 14 * k + (14 + c) = 14 * (k + 1) + c by omega]
theorem st_ws {g : ts_W} {M : ts_M} : ts_ws g M = st_b g M (14 * 0) ++ (st_b g M (14 * 1) ++ (st_b g M (14 * 2) ++ (st_b g M (14 * 3) ++ (st_b g M (14 * 4) ++ (st_b g M (14 * 5) ++ (st_b g M (14 * 6) ++ (st_b g M (14 * 7) ++ (st_b g M (14 * 8) ++ (st_b g M (14 * 9) ++ (st_b g M (14 * 10) ++ st_t g M 11)))))))))) := by
  have h0 : ts_ws g M = st_t g M 0 := by
    unfold ts_ws st_t
    apply List.map_congr_left
    intro c _
    rw [show 14 * 0 + c = c by omega]
  rw [h0, st_t_s (k := 0) (by decide), st_t_s (k := 0 + 1) (by decide), st_t_s (k := 0 + 1 + 1) (by decide), st_t_s (k := 0 + 1 + 1 + 1) (by decide), st_t_s (k := 0 + 1 + 1 + 1 + 1) (by decide), st_t_s (k := 0 + 1 + 1 + 1 + 1 + 1) (by decide), st_t_s (k := 0 + 1 + 1 + 1 + 1 + 1 + 1) (by decide), st_t_s (k := 0 + 1 + 1 + 1 + 1 + 1 + 1 + 1) (by decide), st_t_s (k := 0 + 1 + 1 + 1 + 1 + 1 + 1 + 1 + 1) (by decide), st_t_s (k := 0 + 1 + 1 + 1 + 1 + 1 + 1 + 1 + 1 + 1) (by decide), st_t_s (k := 0 + 1 + 1 + 1 + 1 + 1 + 1 + 1 + 1 + 1 + 1) (by decide)]
/-- a new State -/
theorem st_blk {g : ts_W} {u k : Nat} {ad : Nat → Nat} (hk : k < 11) (had : ∀ c : Nat, c < 14 → g.2.2.1 (14 * k + c) = ad c) : st_b g (st_M u) (14 * k) = ts_SW (g.1, g.2.1) ad := by
  have hb : ts_isS (14 * k) := ⟨k, hk, rfl⟩
  have hf : ∀ c : Nat, c < 14 → (st_M u).1 (14 * k + c) = fun _ => 0 := fun c hc => by
    show st_f u (14 * k + c) = _
    unfold st_f
    rw [if_pos (by omega)]
  have hG : ∀ c : Nat, c < 14 → ts_G g (14 * k + c) ((st_M u).1 (14 * k + c)) ((st_M u).2.1 (14 * k + c)) ((st_M u).2.2 (14 * k + c)) = ts_GS g (14 * k) c (fun _ => 0) (fun _ => 0) := fun c hc => by
    rw [ts_isS_G hb c hc, hf c hc]; rfl
  have hr : ∀ c : Nat, c < 14 → ts_r g (14 * k + c) = .ref (ad c) := fun c hc => congrArg Value.ref (had c hc)
  have hE : ∀ c : Nat, c < 14 → (ts_ad g (14 * k + c), ts_G g (14 * k + c) ((st_M u).1 (14 * k + c)) ((st_M u).2.1 (14 * k + c)) ((st_M u).2.2 (14 * k + c))) = (ad c, ts_GS g (14 * k) c (fun _ => 0) (fun _ => 0)) := fun c hc => by
    rw [hG c hc]
    exact congrArg (fun z => (z, ts_GS g (14 * k) c (fun _ => 0) (fun _ => 0))) (had c hc)
  show [(ts_ad g (14 * k + 0), ts_G g (14 * k + 0) ((st_M u).1 (14 * k + 0)) ((st_M u).2.1 (14 * k + 0)) ((st_M u).2.2 (14 * k + 0))), (ts_ad g (14 * k + 1), ts_G g (14 * k + 1) ((st_M u).1 (14 * k + 1)) ((st_M u).2.1 (14 * k + 1)) ((st_M u).2.2 (14 * k + 1))), (ts_ad g (14 * k + 2), ts_G g (14 * k + 2) ((st_M u).1 (14 * k + 2)) ((st_M u).2.1 (14 * k + 2)) ((st_M u).2.2 (14 * k + 2))), (ts_ad g (14 * k + 3), ts_G g (14 * k + 3) ((st_M u).1 (14 * k + 3)) ((st_M u).2.1 (14 * k + 3)) ((st_M u).2.2 (14 * k + 3))), (ts_ad g (14 * k + 4), ts_G g (14 * k + 4) ((st_M u).1 (14 * k + 4)) ((st_M u).2.1 (14 * k + 4)) ((st_M u).2.2 (14 * k + 4))), (ts_ad g (14 * k + 5), ts_G g (14 * k + 5) ((st_M u).1 (14 * k + 5)) ((st_M u).2.1 (14 * k + 5)) ((st_M u).2.2 (14 * k + 5))), (ts_ad g (14 * k + 6), ts_G g (14 * k + 6) ((st_M u).1 (14 * k + 6)) ((st_M u).2.1 (14 * k + 6)) ((st_M u).2.2 (14 * k + 6))), (ts_ad g (14 * k + 7), ts_G g (14 * k + 7) ((st_M u).1 (14 * k + 7)) ((st_M u).2.1 (14 * k + 7)) ((st_M u).2.2 (14 * k + 7))), (ts_ad g (14 * k + 8), ts_G g (14 * k + 8) ((st_M u).1 (14 * k + 8)) ((st_M u).2.1 (14 * k + 8)) ((st_M u).2.2 (14 * k + 8))), (ts_ad g (14 * k + 9), ts_G g (14 * k + 9) ((st_M u).1 (14 * k + 9)) ((st_M u).2.1 (14 * k + 9)) ((st_M u).2.2 (14 * k + 9))), (ts_ad g (14 * k + 10), ts_G g (14 * k + 10) ((st_M u).1 (14 * k + 10)) ((st_M u).2.1 (14 * k + 10)) ((st_M u).2.2 (14 * k + 10))), (ts_ad g (14 * k + 11), ts_G g (14 * k + 11) ((st_M u).1 (14 * k + 11)) ((st_M u).2.1 (14 * k + 11)) ((st_M u).2.2 (14 * k + 11))), (ts_ad g (14 * k + 12), ts_G g (14 * k + 12) ((st_M u).1 (14 * k + 12)) ((st_M u).2.1 (14 * k + 12)) ((st_M u).2.2 (14 * k + 12))), (ts_ad g (14 * k + 13), ts_G g (14 * k + 13) ((st_M u).1 (14 * k + 13)) ((st_M u).2.1 (14 * k + 13)) ((st_M u).2.2 (14 * k + 13)))] = _
  rw [hE 0 (by decide), hE 1 (by decide), hE 2 (by decide), hE 3 (by decide), hE 4 (by decide), hE 5 (by decide), hE 6 (by decide), hE 7 (by decide), hE 8 (by decide), hE 9 (by decide), hE 10 (by decide), hE 11 (by decide), hE 12 (by decide), hE 13 (by decide)]
  show ([(ad 0, .inr (10, [ts_r g (14 * k + 1), ts_r g (14 * k + 6), ts_r g (14 * k + 9), ts_r g (14 * k + 11), ts_r g (14 * k + 13), ts_v 0, ts_v 0, ts_v 0, ts_v 0])), (ad 1, .inr (9, [ts_r g (14 * k + 2), ts_r g (14 * k + 3), ts_r g (14 * k + 4), ts_r g (14 * k + 5), ts_v 0, ts_v 0, ts_v 0, ts_v 0])), (ad 2, .inl (g.2.1 0, 8, .inl (fun _ => ts_I 0))), (ad 3, .inl (g.2.1 0, 8, .inl (fun _ => ts_I 0))), (ad 4, .inl (g.2.1 0, 8, .inl (fun _ => ts_I 0))), (ad 5, .inl (g.2.1 0, 8, .inl (fun _ => ts_I 0))), (ad 6, .inr (6, [ts_r g (14 * k + 7), ts_r g (14 * k + 8), ts_v 0, ts_v 0])), (ad 7, .inl (g.2.1 0, 6, .inl (fun _ => ts_I 0))), (ad 8, .inl (g.2.1 0, 6, .inl (fun _ => ts_I 0))), (ad 9, .inr (11, [ts_r g (14 * k + 10), ts_v 0, ts_v 0, ts_v 0, ts_v 0])), (ad 10, .inl (g.2.1 0, 5, .inl (fun _ => ts_I 0))), (ad 11, .inr (4, [.long 0, ts_r g (14 * k + 12), ts_v 0])), (ad 12, .inl (g.2.1 1, 64, .inr (.inl (fun _ => 0)))), (ad 13, .inl (g.2.1 0, 20, .inl (fun _ => ts_I 0)))] : va_W) = _
  rw [hr 1 (by decide), hr 6 (by decide), hr 9 (by decide), hr 11 (by decide), hr 13 (by decide), hr 2 (by decide), hr 3 (by decide), hr 4 (by decide), hr 5 (by decide), hr 7 (by decide), hr 8 (by decide), hr 10 (by decide), hr 12 (by decide)]
  rfl
/-- the other cells -/
theorem st_lst {g : ts_W} {M : ts_M} : st_t g M 11 = [(ts_ad g 154, ts_G g 154 (M.1 154) (M.2.1 154) (M.2.2 154)), (ts_ad g 155, ts_G g 155 (M.1 155) (M.2.1 155) (M.2.2 155)), (ts_ad g 156, ts_G g 156 (M.1 156) (M.2.1 156) (M.2.2 156)), (ts_ad g 157, ts_G g 157 (M.1 157) (M.2.1 157) (M.2.2 157)), (ts_ad g 158, ts_G g 158 (M.1 158) (M.2.1 158) (M.2.2 158)), (ts_ad g 159, ts_G g 159 (M.1 159) (M.2.1 159) (M.2.2 159)), (ts_ad g 160, ts_G g 160 (M.1 160) (M.2.1 160) (M.2.2 160)), (ts_ad g 161, ts_G g 161 (M.1 161) (M.2.1 161) (M.2.2 161)), (ts_ad g 162, ts_G g 162 (M.1 162) (M.2.1 162) (M.2.2 162)), (ts_ad g 163, ts_G g 163 (M.1 163) (M.2.1 163) (M.2.2 163)), (ts_ad g 164, ts_G g 164 (M.1 164) (M.2.1 164) (M.2.2 164)), (ts_ad g 165, ts_G g 165 (M.1 165) (M.2.1 165) (M.2.2 165)), (ts_ad g 166, ts_G g 166 (M.1 166) (M.2.1 166) (M.2.2 166)), (ts_ad g 167, ts_G g 167 (M.1 167) (M.2.1 167) (M.2.2 167)), (ts_ad g 168, ts_G g 168 (M.1 168) (M.2.1 168) (M.2.2 168)), (ts_ad g 169, ts_G g 169 (M.1 169) (M.2.1 169) (M.2.2 169)), (ts_ad g 170, ts_G g 170 (M.1 170) (M.2.1 170) (M.2.2 170)), (ts_ad g 171, ts_G g 171 (M.1 171) (M.2.1 171) (M.2.2 171)), (ts_ad g 172, ts_G g 172 (M.1 172) (M.2.1 172) (M.2.2 172)), (ts_ad g 173, ts_G g 173 (M.1 173) (M.2.1 173) (M.2.2 173)), (ts_ad g 174, ts_G g 174 (M.1 174) (M.2.1 174) (M.2.2 174)), (ts_ad g 175, ts_G g 175 (M.1 175) (M.2.1 175) (M.2.2 175)), (ts_ad g 176, ts_G g 176 (M.1 176) (M.2.1 176) (M.2.2 176))] := rfl
theorem st_o154 {g : ts_W} {u : Nat} : ts_G g 154 ((st_M u).1 154) ((st_M u).2.1 154) ((st_M u).2.2 154) = .inr (12, [ts_r g 0, ts_r g 14, ts_r g 28, ts_r g 158, ts_r g 155, ts_r g 160, ts_r g 177, ts_v 0, ts_v (-1), ts_v (-1)]) := rfl
theorem st_o155 {g : ts_W} {u : Nat} : ts_G g 155 ((st_M u).1 155) ((st_M u).2.1 155) ((st_M u).2.2 155) = .inr (7, [ts_r g 156, ts_r g 157, ts_v 0]) := rfl
theorem st_o156 {g : ts_W} {u : Nat} : ts_G g 156 ((st_M u).1 156) ((st_M u).2.1 156) ((st_M u).2.2 156) = .inl (g.2.1 0, 36, .inl (fun _ => ts_I 0)) := rfl
theorem st_o157 {g : ts_W} {u : Nat} : ts_G g 157 ((st_M u).1 157) ((st_M u).2.1 157) ((st_M u).2.2 157) = .inl (g.2.1 0, 64, .inl (fun _ => ts_I 0)) := rfl
theorem st_o158 {g : ts_W} {u : Nat} : ts_G g 158 ((st_M u).1 158) ((st_M u).2.1 158) ((st_M u).2.2 158) = .inr (5, [ts_r g 159, ts_v 0, ts_v 0]) := rfl
theorem st_o159 {g : ts_W} {u : Nat} : ts_G g 159 ((st_M u).1 159) ((st_M u).2.1 159) ((st_M u).2.2 159) = .inl (g.2.1 5, 8, .inr (.inr (.inr (.inr (fun j => some (ts_ad g (14 * (j + 3)))))))) := rfl
theorem st_o160 {g : ts_W} {u : Nat} : ts_G g 160 ((st_M u).1 160) ((st_M u).2.1 160) ((st_M u).2.2 160) = .inr (8, [ts_r g 161, ts_r g 162, ts_r g 163, ts_v 0, ts_v 0, ts_v 0, ts_v 0]) := rfl
theorem st_o161 {g : ts_W} {u : Nat} : ts_G g 161 ((st_M u).1 161) ((st_M u).2.1 161) ((st_M u).2.2 161) = .inl (g.2.1 2, 60, .inl (fun _ => ts_I 0)) := rfl
theorem st_o162 {g : ts_W} {u : Nat} : ts_G g 162 ((st_M u).1 162) ((st_M u).2.1 162) ((st_M u).2.2 162) = .inl (g.2.1 6, 12, .inr (.inr (.inr (.inr (fun _ => none))))) := rfl
theorem st_o163 {g : ts_W} {u : Nat} : ts_G g 163 ((st_M u).1 163) ((st_M u).2.1 163) ((st_M u).2.2 163) = .inl (g.2.1 0, 36, .inl (fun _ => ts_I 0)) := rfl
theorem st_o164 {g : ts_W} {u : Nat} : ts_G g 164 ((st_M u).1 164) ((st_M u).2.1 164) ((st_M u).2.2 164) = .inr (13, [ts_v 0, ts_r g 165, ts_r g 166, ts_r g 167, ts_r g 168, ts_v 0, ts_v 0, ts_v 0, ts_r g 169, ts_r g 170, ts_r g 171, ts_r g 172, ts_v 0, ts_r g 173, ts_v 0, ts_v 0, ts_v (-1), ts_v (-1), ts_r g 174, ts_v 0, ts_v 0]) := rfl
theorem st_o165 {g : ts_W} {u : Nat} : ts_G g 165 ((st_M u).1 165) ((st_M u).2.1 165) ((st_M u).2.2 165) = .inl (g.2.1 0, 146, .inl (fun _ => ts_I 0)) := rfl
theorem st_o166 {g : ts_W} {u : Nat} : ts_G g 166 ((st_M u).1 166) ((st_M u).2.1 166) ((st_M u).2.2 166) = .inl (g.2.1 0, 1168, .inl (fun _ => ts_I 0)) := rfl
theorem st_o167 {g : ts_W} {u : Nat} : ts_G g 167 ((st_M u).1 167) ((st_M u).2.1 167) ((st_M u).2.2 167) = .inl (g.2.1 0, 146, .inl (fun _ => ts_I 0)) := rfl
theorem st_o168 {g : ts_W} {u : Nat} : ts_G g 168 ((st_M u).1 168) ((st_M u).2.1 168) ((st_M u).2.2 168) = .inl (g.2.1 0, 146, .inl (fun _ => ts_I 0)) := rfl
theorem st_o169 {g : ts_W} {u : Nat} : ts_G g 169 ((st_M u).1 169) ((st_M u).2.1 169) ((st_M u).2.2 169) = .inl (g.2.1 0, 64, .inl (fun _ => ts_I 0)) := rfl
theorem st_o170 {g : ts_W} {u : Nat} : ts_G g 170 ((st_M u).1 170) ((st_M u).2.1 170) ((st_M u).2.2 170) = .inl (g.2.1 0, 64, .inl (fun _ => ts_I 0)) := rfl
theorem st_o171 {g : ts_W} {u : Nat} : ts_G g 171 ((st_M u).1 171) ((st_M u).2.1 171) ((st_M u).2.2 171) = .inl (g.2.1 0, 64, .inl (fun _ => ts_I 0)) := rfl
theorem st_o172 {g : ts_W} {u : Nat} : ts_G g 172 ((st_M u).1 172) ((st_M u).2.1 172) ((st_M u).2.2 172) = .inl (g.2.1 2, 80, .inl (fun _ => ts_I 0)) := rfl
theorem st_o173 {g : ts_W} {u : Nat} : ts_G g 173 ((st_M u).1 173) ((st_M u).2.1 173) ((st_M u).2.2 173) = .inl (g.2.1 2, 60, .inl (fun _ => ts_I 0)) := rfl
theorem st_o174 {g : ts_W} {u : Nat} : ts_G g 174 ((st_M u).1 174) ((st_M u).2.1 174) ((st_M u).2.2 174) = .inl (g.2.1 0, 3, .inl (fun _ => ts_I 0)) := rfl
theorem st_o175 {g : ts_W} {u : Nat} : ts_G g 175 ((st_M u).1 175) ((st_M u).2.1 175) ((st_M u).2.2 175) = .inl (g.2.1 1, 1, .inr (.inl (fun _ => 0))) := rfl
theorem st_o176 {g : ts_W} {u : Nat} : ts_G g 176 ((st_M u).1 176) ((st_M u).2.1 176) ((st_M u).2.2 176) = .inl (g.2.1 4, 1, .inr (.inr (.inr (.inl (fun _ => 0))))) := rfl
theorem st_arrV {cA : ClassId} {n : Nat} {f f2 : Nat → Value} (h : ∀ j : Nat, j < n → f j = f2 j) : arrV cA n f = arrV cA n f2 := by
  unfold arrV
  rw [show (fun j : Fin n => f j.val) = (fun j : Fin n => f2 j.val) from funext (fun j => h j.val j.isLt)]
theorem st_perm {α : Type} (A S1 S2 S3 C L E G X I J K : List α) : List.Perm ((((A ++ ((((((S1 ++ S2) ++ S3) ++ (C ++ L)) ++ E) ++ G) ++ X)) ++ I) ++ J) ++ K) (S1 ++ (S2 ++ (S3 ++ (L ++ ((A ++ (E ++ (C ++ (G ++ (I ++ (J ++ K)))))) ++ X))))) := by
  letI : DecidableEq α := fun a b => Classical.propDecidable (a = b)
  refine List.perm_iff_count.mpr (fun x => ?_)
  simp only [List.count_append]
  omega
/-- worlds by what they hold -/
theorem st_P_perm {D : va_G} {cl : List vw_C} {ws ws2 : va_W} {H : Heap} (h : List.Perm ws ws2) (hP : va_P D cl ws H) : va_P D cl ws2 H := fun k q hq => by
  obtain ⟨i, hi⟩ := List.getElem?_of_mem (h.mem_iff.mpr (List.mem_of_getElem? hq))
  exact hP i q hi
theorem st_D_nodup {A : Nat → Prop} {ws : va_W} (hD : va_D A ws) : (ws.map Prod.fst).Nodup := by
  rw [List.nodup_iff_pairwise_ne, List.pairwise_iff_getElem]
  intro i j hi hj hij he
  rw [List.length_map] at hi hj
  rw [List.getElem_map, List.getElem_map] at he
  have := hD.1 i j ws[i] ws[j] (List.getElem?_eq_getElem hi) (List.getElem?_eq_getElem hj) he
  omega
theorem st_D_of {A : Nat → Prop} {ws : va_W} (hn : (ws.map Prod.fst).Nodup) (hA : ∀ q ∈ ws, A q.1) : va_D A ws := by
  refine ⟨fun i j p q hp hq he => ?_, fun k q hq => hA q (List.mem_of_getElem? hq)⟩
  rw [List.nodup_iff_pairwise_ne, List.pairwise_iff_getElem] at hn
  obtain ⟨hi, ep⟩ := List.getElem?_eq_some_iff.mp hp
  obtain ⟨hj, eq⟩ := List.getElem?_eq_some_iff.mp hq
  have hi2 : i < (ws.map Prod.fst).length := by rw [List.length_map]; exact hi
  have hj2 : j < (ws.map Prod.fst).length := by rw [List.length_map]; exact hj
  have e2 : (ws.map Prod.fst)[i] = (ws.map Prod.fst)[j] := by
    rw [List.getElem_map, List.getElem_map, ep, eq]
    exact he
  rcases Nat.lt_trichotomy i j with c | c | c
  · exact absurd e2 (hn i j hi2 hj2 c)
  · exact c
  · exact absurd e2.symm (hn j i hj2 hi2 c)
theorem st_D_perm {A : Nat → Prop} {ws ws2 : va_W} (h : List.Perm ws ws2) (hD : va_D A ws) : va_D A ws2 := by
  refine st_D_of ((h.map Prod.fst).nodup (st_D_nodup hD)) (fun q hq => ?_)
  obtain ⟨i, hi⟩ := List.getElem?_of_mem (h.mem_iff.mpr hq)
  exact hD.2 i q hi
section STW
variable {γ : ts_γ} {sx : Nat → Nat} {A : Nat → Prop} {ad1 : Nat → Nat} {ad2 : Nat → Nat} {ad3 : Nat → Nat} {v4 : Nat} {ad4 : Nat → Nat → Nat} {u4 : Nat} {u5_1 : Nat} {u5_2 : Nat} {u5 : Nat} {u6_1 : Nat} {u6_2 : Nat} {u6_3 : Nat} {u6 : Nat} {u7_1 : Nat} {u7 : Nat} {us : Nat} {um : Nat} {o1 : Nat} {o2 : Nat} {m_v1 : Nat} {m_v2 : Nat} {m_v3 : Nat} {m_v4 : Nat} {m_v5 : Nat} {m_v6 : Nat} {m_v7 : Nat} {m_v8 : Nat} {m_v9 : Nat} {m_v10 : Nat}
def st_F (γ : ts_γ) (ad1 : Nat → Nat) (ad2 : Nat → Nat) (ad3 : Nat → Nat) (v4 : Nat) (ad4 : Nat → Nat → Nat) (u4 : Nat) (u5_1 : Nat) (u5_2 : Nat) (u5 : Nat) (u6_1 : Nat) (u6_2 : Nat) (u6_3 : Nat) (u6 : Nat) (u7_1 : Nat) (u7 : Nat) (us : Nat) (um : Nat) (o1 : Nat) (o2 : Nat) (m_v1 : Nat) (m_v2 : Nat) (m_v3 : Nat) (m_v4 : Nat) (m_v5 : Nat) (m_v6 : Nat) (m_v7 : Nat) (m_v8 : Nat) (m_v9 : Nat) (m_v10 : Nat) : va_W := (((((us, .inr (12, [.ref (ad1 0), .ref (ad2 0), .ref (ad3 0), .ref u4, .ref u5, .ref u6, .ref u7, ts_v 0, ts_v (-1), ts_v (-1)])) :: (((((((ts_SW γ ad1) ++ ts_SW γ ad2) ++ ts_SW γ ad3) ++ ts_HW γ u4 v4 ad4 8) ++ [(u5, .inr (7, [.ref u5_1, .ref u5_2, ts_v 0])), (u5_1, .inl (γ.2 0, 36, .inl (fun _ => ts_I 0))), (u5_2, .inl (γ.2 0, 64, .inl (fun _ => ts_I 0)))]) ++ [(u6, .inr (8, [.ref u6_1, .ref u6_2, .ref u6_3, ts_v 0, ts_v 0, ts_v 0, ts_v 0])), (u6_1, .inl (γ.2 2, 60, .inl (fun _ => ts_I 0))), (u6_2, .inl (γ.2 6, 12, .inr (.inr (.inr (.inr (fun _ => none)))))), (u6_3, .inl (γ.2 0, 36, .inl (fun _ => ts_I 0)))]) ++ [(u7, .inr (1, [.ref u7_1, ts_v 0, ts_v 0, ts_v 0])), (u7_1, .inl (γ.2 3, 16, .inl (fun _ => ts_I 0)))])) ++ [(um, .inr (13, [ts_v 0, .ref m_v1, .ref m_v2, .ref m_v3, .ref m_v4, ts_v 0, ts_v 0, ts_v 0, .ref m_v5, .ref m_v6, .ref m_v7, .ref m_v8, ts_v 0, .ref m_v9, ts_v 0, ts_v 0, ts_v (-1), ts_v (-1), .ref m_v10, ts_v 0, ts_v 0])), (m_v1, .inl (γ.2 0, 146, .inl (fun _ => ts_I 0))), (m_v2, .inl (γ.2 0, 1168, .inl (fun _ => ts_I 0))), (m_v3, .inl (γ.2 0, 146, .inl (fun _ => ts_I 0))), (m_v4, .inl (γ.2 0, 146, .inl (fun _ => ts_I 0))), (m_v5, .inl (γ.2 0, 64, .inl (fun _ => ts_I 0))), (m_v6, .inl (γ.2 0, 64, .inl (fun _ => ts_I 0))), (m_v7, .inl (γ.2 0, 64, .inl (fun _ => ts_I 0))), (m_v8, .inl (γ.2 2, 80, .inl (fun _ => ts_I 0))), (m_v9, .inl (γ.2 2, 60, .inl (fun _ => ts_I 0))), (m_v10, .inl (γ.2 0, 3, .inl (fun _ => ts_I 0)))]) ++ [(o1, .inl (γ.2 1, 1, .inr (.inl (fun _ => 0))))]) ++ [(o2, .inl (γ.2 4, 1, .inr (.inr (.inr (.inl (fun _ => 0))))))])
def st_g (γ : ts_γ) (sx : Nat → Nat) (A : Nat → Prop) (ad1 : Nat → Nat) (ad2 : Nat → Nat) (ad3 : Nat → Nat) (v4 : Nat) (ad4 : Nat → Nat → Nat) (u4 : Nat) (u5_1 : Nat) (u5_2 : Nat) (u5 : Nat) (u6_1 : Nat) (u6_2 : Nat) (u6_3 : Nat) (u6 : Nat) (u7_1 : Nat) (u7 : Nat) (us : Nat) (um : Nat) (o1 : Nat) (o2 : Nat) (m_v1 : Nat) (m_v2 : Nat) (m_v3 : Nat) (m_v4 : Nat) (m_v5 : Nat) (m_v6 : Nat) (m_v7 : Nat) (m_v8 : Nat) (m_v9 : Nat) (m_v10 : Nat) : ts_W := (γ.1, γ.2, st_ad ad1 ad2 ad3 v4 ad4 u4 u5_1 u5_2 u5 u6_1 u6_2 u6_3 u6 u7_1 u7 us um o1 o2 m_v1 m_v2 m_v3 m_v4 m_v5 m_v6 m_v7 m_v8 m_v9 m_v10, sx, A)
/-- the cells in the world's order -/
def st_T (γ : ts_γ) (h : Nat → Option Nat) (ad1 : Nat → Nat) (ad2 : Nat → Nat) (ad3 : Nat → Nat) (v4 : Nat) (ad4 : Nat → Nat → Nat) (u4 : Nat) (u5_1 : Nat) (u5_2 : Nat) (u5 : Nat) (u6_1 : Nat) (u6_2 : Nat) (u6_3 : Nat) (u6 : Nat) (u7_1 : Nat) (u7 : Nat) (us : Nat) (um : Nat) (o1 : Nat) (o2 : Nat) (m_v1 : Nat) (m_v2 : Nat) (m_v3 : Nat) (m_v4 : Nat) (m_v5 : Nat) (m_v6 : Nat) (m_v7 : Nat) (m_v8 : Nat) (m_v9 : Nat) (m_v10 : Nat) : va_W := ts_SW γ ad1 ++ (ts_SW γ ad2 ++ (ts_SW γ ad3 ++ (ts_SL γ ad4 8 ++ (([(us, .inr (12, [.ref (ad1 0), .ref (ad2 0), .ref (ad3 0), .ref u4, .ref u5, .ref u6, .ref u7, ts_v 0, ts_v (-1), ts_v (-1)])), (u5, .inr (7, [.ref u5_1, .ref u5_2, ts_v 0])), (u5_1, .inl (γ.2 0, 36, .inl (fun _ => ts_I 0))), (u5_2, .inl (γ.2 0, 64, .inl (fun _ => ts_I 0))), (u4, .inr (5, [.ref v4, ts_v 0, ts_v 0]))] ++ ((v4, .inl (γ.2 5, 8, .inr (.inr (.inr (.inr h))))) :: [(u6, .inr (8, [.ref u6_1, .ref u6_2, .ref u6_3, ts_v 0, ts_v 0, ts_v 0, ts_v 0])), (u6_1, .inl (γ.2 2, 60, .inl (fun _ => ts_I 0))), (u6_2, .inl (γ.2 6, 12, .inr (.inr (.inr (.inr (fun _ => none)))))), (u6_3, .inl (γ.2 0, 36, .inl (fun _ => ts_I 0))), (um, .inr (13, [ts_v 0, .ref m_v1, .ref m_v2, .ref m_v3, .ref m_v4, ts_v 0, ts_v 0, ts_v 0, .ref m_v5, .ref m_v6, .ref m_v7, .ref m_v8, ts_v 0, .ref m_v9, ts_v 0, ts_v 0, ts_v (-1), ts_v (-1), .ref m_v10, ts_v 0, ts_v 0])), (m_v1, .inl (γ.2 0, 146, .inl (fun _ => ts_I 0))), (m_v2, .inl (γ.2 0, 1168, .inl (fun _ => ts_I 0))), (m_v3, .inl (γ.2 0, 146, .inl (fun _ => ts_I 0))), (m_v4, .inl (γ.2 0, 146, .inl (fun _ => ts_I 0))), (m_v5, .inl (γ.2 0, 64, .inl (fun _ => ts_I 0))), (m_v6, .inl (γ.2 0, 64, .inl (fun _ => ts_I 0))), (m_v7, .inl (γ.2 0, 64, .inl (fun _ => ts_I 0))), (m_v8, .inl (γ.2 2, 80, .inl (fun _ => ts_I 0))), (m_v9, .inl (γ.2 2, 60, .inl (fun _ => ts_I 0))), (m_v10, .inl (γ.2 0, 3, .inl (fun _ => ts_I 0))), (o1, .inl (γ.2 1, 1, .inr (.inl (fun _ => 0)))), (o2, .inl (γ.2 4, 1, .inr (.inr (.inr (.inl (fun _ => 0))))))])) ++ [(u7, .inr (1, [.ref u7_1, ts_v 0, ts_v 0, ts_v 0])), (u7_1, .inl (γ.2 3, 16, .inl (fun _ => ts_I 0)))]))))
theorem st_FT : List.Perm (st_F γ ad1 ad2 ad3 v4 ad4 u4 u5_1 u5_2 u5 u6_1 u6_2 u6_3 u6 u7_1 u7 us um o1 o2 m_v1 m_v2 m_v3 m_v4 m_v5 m_v6 m_v7 m_v8 m_v9 m_v10) (st_T γ (fun i => if i < 8 then some (ad4 i 0) else none) ad1 ad2 ad3 v4 ad4 u4 u5_1 u5_2 u5 u6_1 u6_2 u6_3 u6 u7_1 u7 us um o1 o2 m_v1 m_v2 m_v3 m_v4 m_v5 m_v6 m_v7 m_v8 m_v9 m_v10) := st_perm [(us, .inr (12, [.ref (ad1 0), .ref (ad2 0), .ref (ad3 0), .ref u4, .ref u5, .ref u6, .ref u7, ts_v 0, ts_v (-1), ts_v (-1)]))] (ts_SW γ ad1) (ts_SW γ ad2) (ts_SW γ ad3) [(u4, .inr (5, [.ref v4, ts_v 0, ts_v 0])), (v4, .inl (γ.2 5, 8, .inr (.inr (.inr (.inr (fun i => if i < 8 then some (ad4 i 0) else none))))))] (ts_SL γ ad4 8) [(u5, .inr (7, [.ref u5_1, .ref u5_2, ts_v 0])), (u5_1, .inl (γ.2 0, 36, .inl (fun _ => ts_I 0))), (u5_2, .inl (γ.2 0, 64, .inl (fun _ => ts_I 0)))] [(u6, .inr (8, [.ref u6_1, .ref u6_2, .ref u6_3, ts_v 0, ts_v 0, ts_v 0, ts_v 0])), (u6_1, .inl (γ.2 2, 60, .inl (fun _ => ts_I 0))), (u6_2, .inl (γ.2 6, 12, .inr (.inr (.inr (.inr (fun _ => none)))))), (u6_3, .inl (γ.2 0, 36, .inl (fun _ => ts_I 0)))] [(u7, .inr (1, [.ref u7_1, ts_v 0, ts_v 0, ts_v 0])), (u7_1, .inl (γ.2 3, 16, .inl (fun _ => ts_I 0)))] [(um, .inr (13, [ts_v 0, .ref m_v1, .ref m_v2, .ref m_v3, .ref m_v4, ts_v 0, ts_v 0, ts_v 0, .ref m_v5, .ref m_v6, .ref m_v7, .ref m_v8, ts_v 0, .ref m_v9, ts_v 0, ts_v 0, ts_v (-1), ts_v (-1), .ref m_v10, ts_v 0, ts_v 0])), (m_v1, .inl (γ.2 0, 146, .inl (fun _ => ts_I 0))), (m_v2, .inl (γ.2 0, 1168, .inl (fun _ => ts_I 0))), (m_v3, .inl (γ.2 0, 146, .inl (fun _ => ts_I 0))), (m_v4, .inl (γ.2 0, 146, .inl (fun _ => ts_I 0))), (m_v5, .inl (γ.2 0, 64, .inl (fun _ => ts_I 0))), (m_v6, .inl (γ.2 0, 64, .inl (fun _ => ts_I 0))), (m_v7, .inl (γ.2 0, 64, .inl (fun _ => ts_I 0))), (m_v8, .inl (γ.2 2, 80, .inl (fun _ => ts_I 0))), (m_v9, .inl (γ.2 2, 60, .inl (fun _ => ts_I 0))), (m_v10, .inl (γ.2 0, 3, .inl (fun _ => ts_I 0)))] [(o1, .inl (γ.2 1, 1, .inr (.inl (fun _ => 0))))] [(o2, .inl (γ.2 4, 1, .inr (.inr (.inr (.inl (fun _ => 0))))))]
theorem st_Tmem {h h2 : Nat → Option Nat} {q : Nat × va_E} (hq : q ∈ st_T γ h2 ad1 ad2 ad3 v4 ad4 u4 u5_1 u5_2 u5 u6_1 u6_2 u6_3 u6 u7_1 u7 us um o1 o2 m_v1 m_v2 m_v3 m_v4 m_v5 m_v6 m_v7 m_v8 m_v9 m_v10) : q ∈ st_T γ h ad1 ad2 ad3 v4 ad4 u4 u5_1 u5_2 u5 u6_1 u6_2 u6_3 u6 u7_1 u7 us um o1 o2 m_v1 m_v2 m_v3 m_v4 m_v5 m_v6 m_v7 m_v8 m_v9 m_v10 ∨ q = (v4, .inl (γ.2 5, 8, .inr (.inr (.inr (.inr h2))))) := by
  unfold st_T at hq ⊢
  rcases List.mem_append.mp hq with hq | hq
  · exact Or.inl (List.mem_append.mpr (Or.inl hq))
  rcases List.mem_append.mp hq with hq | hq
  · exact Or.inl (List.mem_append.mpr (Or.inr (List.mem_append.mpr (Or.inl hq))))
  rcases List.mem_append.mp hq with hq | hq
  · exact Or.inl (List.mem_append.mpr (Or.inr (List.mem_append.mpr (Or.inr (List.mem_append.mpr (Or.inl hq))))))
  rcases List.mem_append.mp hq with hq | hq
  · exact Or.inl (List.mem_append.mpr (Or.inr (List.mem_append.mpr (Or.inr (List.mem_append.mpr (Or.inr (List.mem_append.mpr (Or.inl hq))))))))
  rcases List.mem_append.mp hq with hq | hq
  · rcases List.mem_append.mp hq with hq | hq
    · exact Or.inl (List.mem_append.mpr (Or.inr (List.mem_append.mpr (Or.inr (List.mem_append.mpr (Or.inr (List.mem_append.mpr (Or.inr (List.mem_append.mpr (Or.inl (List.mem_append.mpr (Or.inl hq))))))))))))
    · rcases List.mem_cons.mp hq with hq | hq
      · exact Or.inr hq
      · exact Or.inl (List.mem_append.mpr (Or.inr (List.mem_append.mpr (Or.inr (List.mem_append.mpr (Or.inr (List.mem_append.mpr (Or.inr (List.mem_append.mpr (Or.inl (List.mem_append.mpr (Or.inr (List.mem_cons_of_mem _ hq)))))))))))))
  · exact Or.inl (List.mem_append.mpr (Or.inr (List.mem_append.mpr (Or.inr (List.mem_append.mpr (Or.inr (List.mem_append.mpr (Or.inr (List.mem_append.mpr (Or.inr hq))))))))))
theorem st_Tc {h : Nat → Option Nat} : (v4, .inl (γ.2 5, 8, .inr (.inr (.inr (.inr h))))) ∈ st_T γ h ad1 ad2 ad3 v4 ad4 u4 u5_1 u5_2 u5 u6_1 u6_2 u6_3 u6 u7_1 u7 us um o1 o2 m_v1 m_v2 m_v3 m_v4 m_v5 m_v6 m_v7 m_v8 m_v9 m_v10 := by
  unfold st_T
  exact List.mem_append.mpr (Or.inr (List.mem_append.mpr (Or.inr (List.mem_append.mpr (Or.inr (List.mem_append.mpr (Or.inr (List.mem_append.mpr (Or.inl (List.mem_append.mpr (Or.inr List.mem_cons_self)))))))))))
theorem st_Tfst {h h2 : Nat → Option Nat} : (st_T γ h ad1 ad2 ad3 v4 ad4 u4 u5_1 u5_2 u5 u6_1 u6_2 u6_3 u6 u7_1 u7 us um o1 o2 m_v1 m_v2 m_v3 m_v4 m_v5 m_v6 m_v7 m_v8 m_v9 m_v10).map Prod.fst = (st_T γ h2 ad1 ad2 ad3 v4 ad4 u4 u5_1 u5_2 u5 u6_1 u6_2 u6_3 u6 u7_1 u7 us um o1 o2 m_v1 m_v2 m_v3 m_v4 m_v5 m_v6 m_v7 m_v8 m_v9 m_v10).map Prod.fst := by
  unfold st_T
  simp only [List.map_append, List.map_cons]
theorem st_Tmem1 {h h2 : Nat → Option Nat} {q : Nat × va_E} (hq : q ∈ st_T γ h2 ad1 ad2 ad3 v4 ad4 u4 u5_1 u5_2 u5 u6_1 u6_2 u6_3 u6 u7_1 u7 us um o1 o2 m_v1 m_v2 m_v3 m_v4 m_v5 m_v6 m_v7 m_v8 m_v9 m_v10) : ∃ e, (q.1, e) ∈ st_T γ h ad1 ad2 ad3 v4 ad4 u4 u5_1 u5_2 u5 u6_1 u6_2 u6_3 u6 u7_1 u7 us um o1 o2 m_v1 m_v2 m_v3 m_v4 m_v5 m_v6 m_v7 m_v8 m_v9 m_v10 := by
  have h1 : q.1 ∈ (st_T γ h2 ad1 ad2 ad3 v4 ad4 u4 u5_1 u5_2 u5 u6_1 u6_2 u6_3 u6 u7_1 u7 us um o1 o2 m_v1 m_v2 m_v3 m_v4 m_v5 m_v6 m_v7 m_v8 m_v9 m_v10).map Prod.fst := List.mem_map.mpr ⟨q, hq, rfl⟩
  rw [st_Tfst (h2 := h)] at h1
  obtain ⟨x, hx, ex⟩ := List.mem_map.mp h1
  exact ⟨x.2, by rw [← ex]; exact hx⟩
/-- the history's row beyond its end -/
theorem st_TP {D : va_G} {cl : List vw_C} {H : Heap} {h h2 : Nat → Option Nat} (hh : ∀ j : Nat, j < 8 → h2 j = h j) (hP : va_P D cl (st_T γ h ad1 ad2 ad3 v4 ad4 u4 u5_1 u5_2 u5 u6_1 u6_2 u6_3 u6 u7_1 u7 us um o1 o2 m_v1 m_v2 m_v3 m_v4 m_v5 m_v6 m_v7 m_v8 m_v9 m_v10) H) : va_P D cl (st_T γ h2 ad1 ad2 ad3 v4 ad4 u4 u5_1 u5_2 u5 u6_1 u6_2 u6_3 u6 u7_1 u7 us um o1 o2 m_v1 m_v2 m_v3 m_v4 m_v5 m_v6 m_v7 m_v8 m_v9 m_v10) H := fun k q hq => by
  rcases st_Tmem (h := h) (List.mem_of_getElem? hq) with h1 | h1
  · obtain ⟨i, hi⟩ := List.getElem?_of_mem h1
    exact hP i q hi
  · obtain ⟨i, hi⟩ := List.getElem?_of_mem (st_Tc (γ := γ) (h := h) (ad1 := ad1) (ad2 := ad2) (ad3 := ad3) (v4 := v4) (ad4 := ad4) (u4 := u4) (u5_1 := u5_1) (u5_2 := u5_2) (u5 := u5) (u6_1 := u6_1) (u6_2 := u6_2) (u6_3 := u6_3) (u6 := u6) (u7_1 := u7_1) (u7 := u7) (us := us) (um := um) (o1 := o1) (o2 := o2) (m_v1 := m_v1) (m_v2 := m_v2) (m_v3 := m_v3) (m_v4 := m_v4) (m_v5 := m_v5) (m_v6 := m_v6) (m_v7 := m_v7) (m_v8 := m_v8) (m_v9 := m_v9) (m_v10 := m_v10))
    have h2' := hP i _ hi
    rw [h1]
    show H[v4]? = some (arrV (γ.2 5) 8 (fun j => va_rf (h2 j)))
    have h3 : H[v4]? = some (arrV (γ.2 5) 8 (fun j => va_rf (h j))) := h2'
    rw [h3]
    exact congrArg some (st_arrV (fun j hj => by rw [hh j hj]))
theorem st_TD {h h2 : Nat → Option Nat} (hD : va_D A (st_T γ h ad1 ad2 ad3 v4 ad4 u4 u5_1 u5_2 u5 u6_1 u6_2 u6_3 u6 u7_1 u7 us um o1 o2 m_v1 m_v2 m_v3 m_v4 m_v5 m_v6 m_v7 m_v8 m_v9 m_v10)) : va_D A (st_T γ h2 ad1 ad2 ad3 v4 ad4 u4 u5_1 u5_2 u5 u6_1 u6_2 u6_3 u6 u7_1 u7 us um o1 o2 m_v1 m_v2 m_v3 m_v4 m_v5 m_v6 m_v7 m_v8 m_v9 m_v10) := by
  refine st_D_of ?_ (fun q hq => ?_)
  · rw [st_Tfst (h2 := h)]
    exact st_D_nodup hD
  · obtain ⟨e, he⟩ := st_Tmem1 (h := h) hq
    obtain ⟨i, hi⟩ := List.getElem?_of_mem he
    have h3 := hD.2 i _ hi
    exact h3
theorem st_as {a : Nat} (h : a < 154) : (st_g γ sx A ad1 ad2 ad3 v4 ad4 u4 u5_1 u5_2 u5 u6_1 u6_2 u6_3 u6 u7_1 u7 us um o1 o2 m_v1 m_v2 m_v3 m_v4 m_v5 m_v6 m_v7 m_v8 m_v9 m_v10).2.2.1 a = if a / 14 = 0 then ad1 (a % 14) else if a / 14 = 1 then ad2 (a % 14) else if a / 14 = 2 then ad3 (a % 14) else ad4 (a / 14 - 3) (a % 14) := by
  show st_ad ad1 ad2 ad3 v4 ad4 u4 u5_1 u5_2 u5 u6_1 u6_2 u6_3 u6 u7_1 u7 us um o1 o2 m_v1 m_v2 m_v3 m_v4 m_v5 m_v6 m_v7 m_v8 m_v9 m_v10 a = _
  unfold st_ad
  rw [if_pos h]
theorem st_ah {i c : Nat} (h : i < 8) (hc : c < 14) : (st_g γ sx A ad1 ad2 ad3 v4 ad4 u4 u5_1 u5_2 u5 u6_1 u6_2 u6_3 u6 u7_1 u7 us um o1 o2 m_v1 m_v2 m_v3 m_v4 m_v5 m_v6 m_v7 m_v8 m_v9 m_v10).2.2.1 (14 * (i + 3) + c) = ad4 i c := by
  rw [st_as (by omega), if_neg (by omega), if_neg (by omega), if_neg (by omega), show (14 * (i + 3) + c) / 14 - 3 = i by omega, show (14 * (i + 3) + c) % 14 = c by omega]
/-- our world is that list -/
theorem st_wT : ts_ws (st_g γ sx A ad1 ad2 ad3 v4 ad4 u4 u5_1 u5_2 u5 u6_1 u6_2 u6_3 u6 u7_1 u7 us um o1 o2 m_v1 m_v2 m_v3 m_v4 m_v5 m_v6 m_v7 m_v8 m_v9 m_v10) (st_M u7_1) ++ ts_XB (st_g γ sx A ad1 ad2 ad3 v4 ad4 u4 u5_1 u5_2 u5 u6_1 u6_2 u6_3 u6 u7_1 u7 us um o1 o2 m_v1 m_v2 m_v3 m_v4 m_v5 m_v6 m_v7 m_v8 m_v9 m_v10) (st_M u7_1) = st_T γ (fun j => some (ts_ad (st_g γ sx A ad1 ad2 ad3 v4 ad4 u4 u5_1 u5_2 u5 u6_1 u6_2 u6_3 u6 u7_1 u7 us um o1 o2 m_v1 m_v2 m_v3 m_v4 m_v5 m_v6 m_v7 m_v8 m_v9 m_v10) (14 * (j + 3)))) ad1 ad2 ad3 v4 ad4 u4 u5_1 u5_2 u5 u6_1 u6_2 u6_3 u6 u7_1 u7 us um o1 o2 m_v1 m_v2 m_v3 m_v4 m_v5 m_v6 m_v7 m_v8 m_v9 m_v10 := by
  have k0 : ∀ c : Nat, c < 14 → (st_g γ sx A ad1 ad2 ad3 v4 ad4 u4 u5_1 u5_2 u5 u6_1 u6_2 u6_3 u6 u7_1 u7 us um o1 o2 m_v1 m_v2 m_v3 m_v4 m_v5 m_v6 m_v7 m_v8 m_v9 m_v10).2.2.1 (14 * 0 + c) = ad1 c := fun c hc => by rw [st_as (by omega), if_pos (by omega), show (14 * 0 + c) % 14 = c by omega]
  have k1 : ∀ c : Nat, c < 14 → (st_g γ sx A ad1 ad2 ad3 v4 ad4 u4 u5_1 u5_2 u5 u6_1 u6_2 u6_3 u6 u7_1 u7 us um o1 o2 m_v1 m_v2 m_v3 m_v4 m_v5 m_v6 m_v7 m_v8 m_v9 m_v10).2.2.1 (14 * 1 + c) = ad2 c := fun c hc => by rw [st_as (by omega), if_neg (by omega), if_pos (by omega), show (14 * 1 + c) % 14 = c by omega]
  have k2 : ∀ c : Nat, c < 14 → (st_g γ sx A ad1 ad2 ad3 v4 ad4 u4 u5_1 u5_2 u5 u6_1 u6_2 u6_3 u6 u7_1 u7 us um o1 o2 m_v1 m_v2 m_v3 m_v4 m_v5 m_v6 m_v7 m_v8 m_v9 m_v10).2.2.1 (14 * 2 + c) = ad3 c := fun c hc => by rw [st_as (by omega), if_neg (by omega), if_neg (by omega), if_pos (by omega), show (14 * 2 + c) % 14 = c by omega]
  have k3 : ∀ i : Nat, i < 8 → ∀ c : Nat, c < 14 → (st_g γ sx A ad1 ad2 ad3 v4 ad4 u4 u5_1 u5_2 u5 u6_1 u6_2 u6_3 u6 u7_1 u7 us um o1 o2 m_v1 m_v2 m_v3 m_v4 m_v5 m_v6 m_v7 m_v8 m_v9 m_v10).2.2.1 (14 * (i + 3) + c) = ad4 i c := fun i hi c hc => st_ah hi hc
  have eX : ts_XB (st_g γ sx A ad1 ad2 ad3 v4 ad4 u4 u5_1 u5_2 u5 u6_1 u6_2 u6_3 u6 u7_1 u7 us um o1 o2 m_v1 m_v2 m_v3 m_v4 m_v5 m_v6 m_v7 m_v8 m_v9 m_v10) (st_M u7_1) = [(u7, .inr (1, [.ref u7_1, ts_v 0, ts_v 0, ts_v 0])), (u7_1, .inl (γ.2 3, 16, .inl (fun _ => ts_I 0)))] := rfl
  have e154 : (st_g γ sx A ad1 ad2 ad3 v4 ad4 u4 u5_1 u5_2 u5 u6_1 u6_2 u6_3 u6 u7_1 u7 us um o1 o2 m_v1 m_v2 m_v3 m_v4 m_v5 m_v6 m_v7 m_v8 m_v9 m_v10).2.2.1 154 = us := rfl
  have e155 : (st_g γ sx A ad1 ad2 ad3 v4 ad4 u4 u5_1 u5_2 u5 u6_1 u6_2 u6_3 u6 u7_1 u7 us um o1 o2 m_v1 m_v2 m_v3 m_v4 m_v5 m_v6 m_v7 m_v8 m_v9 m_v10).2.2.1 155 = u5 := rfl
  have e156 : (st_g γ sx A ad1 ad2 ad3 v4 ad4 u4 u5_1 u5_2 u5 u6_1 u6_2 u6_3 u6 u7_1 u7 us um o1 o2 m_v1 m_v2 m_v3 m_v4 m_v5 m_v6 m_v7 m_v8 m_v9 m_v10).2.2.1 156 = u5_1 := rfl
  have e157 : (st_g γ sx A ad1 ad2 ad3 v4 ad4 u4 u5_1 u5_2 u5 u6_1 u6_2 u6_3 u6 u7_1 u7 us um o1 o2 m_v1 m_v2 m_v3 m_v4 m_v5 m_v6 m_v7 m_v8 m_v9 m_v10).2.2.1 157 = u5_2 := rfl
  have e158 : (st_g γ sx A ad1 ad2 ad3 v4 ad4 u4 u5_1 u5_2 u5 u6_1 u6_2 u6_3 u6 u7_1 u7 us um o1 o2 m_v1 m_v2 m_v3 m_v4 m_v5 m_v6 m_v7 m_v8 m_v9 m_v10).2.2.1 158 = u4 := rfl
  have e159 : (st_g γ sx A ad1 ad2 ad3 v4 ad4 u4 u5_1 u5_2 u5 u6_1 u6_2 u6_3 u6 u7_1 u7 us um o1 o2 m_v1 m_v2 m_v3 m_v4 m_v5 m_v6 m_v7 m_v8 m_v9 m_v10).2.2.1 159 = v4 := rfl
  have e160 : (st_g γ sx A ad1 ad2 ad3 v4 ad4 u4 u5_1 u5_2 u5 u6_1 u6_2 u6_3 u6 u7_1 u7 us um o1 o2 m_v1 m_v2 m_v3 m_v4 m_v5 m_v6 m_v7 m_v8 m_v9 m_v10).2.2.1 160 = u6 := rfl
  have e161 : (st_g γ sx A ad1 ad2 ad3 v4 ad4 u4 u5_1 u5_2 u5 u6_1 u6_2 u6_3 u6 u7_1 u7 us um o1 o2 m_v1 m_v2 m_v3 m_v4 m_v5 m_v6 m_v7 m_v8 m_v9 m_v10).2.2.1 161 = u6_1 := rfl
  have e162 : (st_g γ sx A ad1 ad2 ad3 v4 ad4 u4 u5_1 u5_2 u5 u6_1 u6_2 u6_3 u6 u7_1 u7 us um o1 o2 m_v1 m_v2 m_v3 m_v4 m_v5 m_v6 m_v7 m_v8 m_v9 m_v10).2.2.1 162 = u6_2 := rfl
  have e163 : (st_g γ sx A ad1 ad2 ad3 v4 ad4 u4 u5_1 u5_2 u5 u6_1 u6_2 u6_3 u6 u7_1 u7 us um o1 o2 m_v1 m_v2 m_v3 m_v4 m_v5 m_v6 m_v7 m_v8 m_v9 m_v10).2.2.1 163 = u6_3 := rfl
  have e164 : (st_g γ sx A ad1 ad2 ad3 v4 ad4 u4 u5_1 u5_2 u5 u6_1 u6_2 u6_3 u6 u7_1 u7 us um o1 o2 m_v1 m_v2 m_v3 m_v4 m_v5 m_v6 m_v7 m_v8 m_v9 m_v10).2.2.1 164 = um := rfl
  have e165 : (st_g γ sx A ad1 ad2 ad3 v4 ad4 u4 u5_1 u5_2 u5 u6_1 u6_2 u6_3 u6 u7_1 u7 us um o1 o2 m_v1 m_v2 m_v3 m_v4 m_v5 m_v6 m_v7 m_v8 m_v9 m_v10).2.2.1 165 = m_v1 := rfl
  have e166 : (st_g γ sx A ad1 ad2 ad3 v4 ad4 u4 u5_1 u5_2 u5 u6_1 u6_2 u6_3 u6 u7_1 u7 us um o1 o2 m_v1 m_v2 m_v3 m_v4 m_v5 m_v6 m_v7 m_v8 m_v9 m_v10).2.2.1 166 = m_v2 := rfl
  have e167 : (st_g γ sx A ad1 ad2 ad3 v4 ad4 u4 u5_1 u5_2 u5 u6_1 u6_2 u6_3 u6 u7_1 u7 us um o1 o2 m_v1 m_v2 m_v3 m_v4 m_v5 m_v6 m_v7 m_v8 m_v9 m_v10).2.2.1 167 = m_v3 := rfl
  have e168 : (st_g γ sx A ad1 ad2 ad3 v4 ad4 u4 u5_1 u5_2 u5 u6_1 u6_2 u6_3 u6 u7_1 u7 us um o1 o2 m_v1 m_v2 m_v3 m_v4 m_v5 m_v6 m_v7 m_v8 m_v9 m_v10).2.2.1 168 = m_v4 := rfl
  have e169 : (st_g γ sx A ad1 ad2 ad3 v4 ad4 u4 u5_1 u5_2 u5 u6_1 u6_2 u6_3 u6 u7_1 u7 us um o1 o2 m_v1 m_v2 m_v3 m_v4 m_v5 m_v6 m_v7 m_v8 m_v9 m_v10).2.2.1 169 = m_v5 := rfl
  have e170 : (st_g γ sx A ad1 ad2 ad3 v4 ad4 u4 u5_1 u5_2 u5 u6_1 u6_2 u6_3 u6 u7_1 u7 us um o1 o2 m_v1 m_v2 m_v3 m_v4 m_v5 m_v6 m_v7 m_v8 m_v9 m_v10).2.2.1 170 = m_v6 := rfl
  have e171 : (st_g γ sx A ad1 ad2 ad3 v4 ad4 u4 u5_1 u5_2 u5 u6_1 u6_2 u6_3 u6 u7_1 u7 us um o1 o2 m_v1 m_v2 m_v3 m_v4 m_v5 m_v6 m_v7 m_v8 m_v9 m_v10).2.2.1 171 = m_v7 := rfl
  have e172 : (st_g γ sx A ad1 ad2 ad3 v4 ad4 u4 u5_1 u5_2 u5 u6_1 u6_2 u6_3 u6 u7_1 u7 us um o1 o2 m_v1 m_v2 m_v3 m_v4 m_v5 m_v6 m_v7 m_v8 m_v9 m_v10).2.2.1 172 = m_v8 := rfl
  have e173 : (st_g γ sx A ad1 ad2 ad3 v4 ad4 u4 u5_1 u5_2 u5 u6_1 u6_2 u6_3 u6 u7_1 u7 us um o1 o2 m_v1 m_v2 m_v3 m_v4 m_v5 m_v6 m_v7 m_v8 m_v9 m_v10).2.2.1 173 = m_v9 := rfl
  have e174 : (st_g γ sx A ad1 ad2 ad3 v4 ad4 u4 u5_1 u5_2 u5 u6_1 u6_2 u6_3 u6 u7_1 u7 us um o1 o2 m_v1 m_v2 m_v3 m_v4 m_v5 m_v6 m_v7 m_v8 m_v9 m_v10).2.2.1 174 = m_v10 := rfl
  have e175 : (st_g γ sx A ad1 ad2 ad3 v4 ad4 u4 u5_1 u5_2 u5 u6_1 u6_2 u6_3 u6 u7_1 u7 us um o1 o2 m_v1 m_v2 m_v3 m_v4 m_v5 m_v6 m_v7 m_v8 m_v9 m_v10).2.2.1 175 = o1 := rfl
  have e176 : (st_g γ sx A ad1 ad2 ad3 v4 ad4 u4 u5_1 u5_2 u5 u6_1 u6_2 u6_3 u6 u7_1 u7 us um o1 o2 m_v1 m_v2 m_v3 m_v4 m_v5 m_v6 m_v7 m_v8 m_v9 m_v10).2.2.1 176 = o2 := rfl
  have e177 : (st_g γ sx A ad1 ad2 ad3 v4 ad4 u4 u5_1 u5_2 u5 u6_1 u6_2 u6_3 u6 u7_1 u7 us um o1 o2 m_v1 m_v2 m_v3 m_v4 m_v5 m_v6 m_v7 m_v8 m_v9 m_v10).2.2.1 177 = u7 := rfl
  have e0 := k0 0 (by decide)
  have e14 := k1 0 (by decide)
  have e28 := k2 0 (by decide)
  have eγ : ((st_g γ sx A ad1 ad2 ad3 v4 ad4 u4 u5_1 u5_2 u5 u6_1 u6_2 u6_3 u6 u7_1 u7 us um o1 o2 m_v1 m_v2 m_v3 m_v4 m_v5 m_v6 m_v7 m_v8 m_v9 m_v10).1, (st_g γ sx A ad1 ad2 ad3 v4 ad4 u4 u5_1 u5_2 u5 u6_1 u6_2 u6_3 u6 u7_1 u7 us um o1 o2 m_v1 m_v2 m_v3 m_v4 m_v5 m_v6 m_v7 m_v8 m_v9 m_v10).2.1) = γ := rfl
  have eg : (st_g γ sx A ad1 ad2 ad3 v4 ad4 u4 u5_1 u5_2 u5 u6_1 u6_2 u6_3 u6 u7_1 u7 us um o1 o2 m_v1 m_v2 m_v3 m_v4 m_v5 m_v6 m_v7 m_v8 m_v9 m_v10).2.1 = γ.2 := rfl
  rw [st_ws, eX, st_lst, st_o154, st_o155, st_o156, st_o157, st_o158, st_o159, st_o160, st_o161, st_o162, st_o163, st_o164, st_o165, st_o166, st_o167, st_o168, st_o169, st_o170, st_o171, st_o172, st_o173, st_o174, st_o175, st_o176]
  generalize st_g γ sx A ad1 ad2 ad3 v4 ad4 u4 u5_1 u5_2 u5 u6_1 u6_2 u6_3 u6 u7_1 u7 us um o1 o2 m_v1 m_v2 m_v3 m_v4 m_v5 m_v6 m_v7 m_v8 m_v9 m_v10 = g at *
  rw [st_blk (k := 0) (by decide) k0, st_blk (k := 1) (by decide) k1, st_blk (k := 2) (by decide) k2, st_blk (k := 3) (by decide) (k3 0 (by decide)), st_blk (k := 4) (by decide) (k3 1 (by decide)), st_blk (k := 5) (by decide) (k3 2 (by decide)), st_blk (k := 6) (by decide) (k3 3 (by decide)), st_blk (k := 7) (by decide) (k3 4 (by decide)), st_blk (k := 8) (by decide) (k3 5 (by decide)), st_blk (k := 9) (by decide) (k3 6 (by decide)), st_blk (k := 10) (by decide) (k3 7 (by decide)), eγ]
  have hr : ∀ a : Nat, ts_r g a = .ref (g.2.2.1 a) := fun _ => rfl
  have ha : ∀ a : Nat, ts_ad g a = g.2.2.1 a := fun _ => rfl
  simp only [hr, ha, e154, e155, e156, e157, e158, e159, e160, e161, e162, e163, e164, e165, e166, e167, e168, e169, e170, e171, e172, e173, e174, e175, e176, e177, eg]
  rw [show g.2.2.1 0 = ad1 0 from e0, show g.2.2.1 14 = ad2 0 from e14, show g.2.2.1 28 = ad3 0 from e28]
  unfold st_T
  rw [show ts_SL γ ad4 8 = (((((((([] ++ ts_SW γ (ad4 0)) ++ ts_SW γ (ad4 1)) ++ ts_SW γ (ad4 2)) ++ ts_SW γ (ad4 3)) ++ ts_SW γ (ad4 4)) ++ ts_SW γ (ad4 5)) ++ ts_SW γ (ad4 6)) ++ ts_SW γ (ad4 7)) from rfl]
  simp only [List.append_assoc, List.nil_append, List.cons_append]
end STW
