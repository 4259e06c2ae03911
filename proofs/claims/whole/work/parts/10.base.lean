/-! ===== the words that stay; the world; the judgement ts_V ===== -/
/-- the tables' words that hold in every frame -/
def lw_good : List Cond := lw_tbl.filter goodWord
theorem ts_gd {w : Cond} (h : w ∈ lw_tbl) (hg : goodWord w = true) : w ∈ lw_good := List.mem_filter.mpr ⟨h, hg⟩
theorem ts_good : GoodIn lw_good lw_good := fun _ h => ⟨h, good_of_word (List.mem_filter.mp h).2⟩
/-- numbers: a whole number stands for the int that it is modulo 2^32 -/
abbrev ts_I (x : Int) : Int32 := Int32.ofInt x
/-- the int's own number -/
def ts_w (x : Int) : Int := (Int32.ofInt x).toInt
theorem ts_w_eq {x : Int} (h : -2147483648 ≤ x) (h2 : x < 2147483648) : ts_w x = x := Int32.toInt_ofInt_of_le (by omega) (by omega)
theorem ts_w_rng (x : Int) : -2147483648 ≤ ts_w x ∧ ts_w x < 2147483648 := ⟨(Int32.ofInt x).le_toInt, (Int32.ofInt x).toInt_lt⟩
theorem ts_I_w (x : Int) : ts_I (ts_w x) = ts_I x := Int32.ofInt_toInt _
theorem ts_I_eq {x y : Int} : ts_I x = ts_I y ↔ ts_w x = ts_w y := Int32.toInt_inj.symm
theorem ts_I_lt {x y : Int} : ts_I x < ts_I y ↔ ts_w x < ts_w y := Int32.lt_iff_toInt_lt
theorem ts_I_le {x y : Int} : ts_I x ≤ ts_I y ↔ ts_w x ≤ ts_w y := Int32.le_iff_toInt_le
def ts_and (x y : Int) : Int := (ts_I x &&& ts_I y).toInt
def ts_or (x y : Int) : Int := (ts_I x ||| ts_I y).toInt
def ts_xor (x y : Int) : Int := (ts_I x ^^^ ts_I y).toInt
def ts_shl (x y : Int) : Int := (ts_I x <<< (ts_I y &&& 31)).toInt
def ts_shr (x y : Int) : Int := (ts_I x >>> (ts_I y &&& 31)).toInt
def ts_ushr (x y : Int) : Int := (((ts_I x).toUInt32 >>> ((ts_I y).toUInt32 &&& Int32.toUInt32 31)).toInt32).toInt
def ts_div (x y : Int) : Int := (ts_I x / ts_I y).toInt
def ts_rem (x y : Int) : Int := (ts_I x - ts_I x / ts_I y * ts_I y).toInt
def ts_i2c (x : Int) : Int := (((ts_I x).toUInt32 % 65536).toInt32).toInt
def ts_i2b (x : Int) : Int := ((ts_I x).toInt8.toInt32).toInt
def ts_l2i (x : Int64) : Int := x.toInt32.toInt
def ts_L (x : Int) : Int64 := (ts_I x).toInt64
def ts_lshl (x : Int64) (y : Int) : Int64 := x <<< ((ts_I y).toInt64 &&& 63)
def ts_lushr (x : Int64) (y : Int) : Int64 := (x.toUInt64 >>> ((ts_I y).toInt64.toUInt64 &&& Int64.toUInt64 63)).toInt64
def ts_nar (ty : FieldType) (x : Int) : Int := (vp_nar ty (ts_I x)).toInt
/-- what a cell holds: ints by their numbers, longs, doubles -/
abbrev ts_M : Type := (Nat → Int → Int) × (Nat → Int → Int64) × (Nat → Int → UInt64)
def ts_si (M : ts_M) (a : Nat) (k v : Int) : ts_M := (fun b j => if b = a ∧ j = k then v else M.1 b j, M.2)
def ts_sl (M : ts_M) (a : Nat) (k : Int) (v : Int64) : ts_M := (M.1, fun b j => if b = a ∧ j = k then v else M.2.1 b j, M.2.2)
def ts_sd (M : ts_M) (a : Nat) (k : Int) (v : UInt64) : ts_M := (M.1, M.2.1, fun b j => if b = a ∧ j = k then v else M.2.2 b j)
/-- the run's own numbers: classes and slots, array classes, addresses of our cells, addresses of what stood before, which cells are ours -/
abbrev ts_W : Type := va_G × (Nat → ClassId) × (Nat → Nat) × (Nat → Nat) × (Nat → Prop)
abbrev ts_ad (g : ts_W) (a : Nat) : Nat := g.2.2.1 a
abbrev ts_A (g : ts_W) : Nat → Prop := g.2.2.2.2
def ts_cm (g : ts_W) (x : Int) : Option Nat := if x < 0 then none else some (g.2.2.2.1 x.toNat)
abbrev ts_ia (g : ts_W) (n : Nat) (f : Int → Int) : va_E := .inl (g.2.1 0, n, .inl (fun j => ts_I (f (j : Int))))
abbrev ts_ca (g : ts_W) (n : Nat) (f : Int → Int) : va_E := .inl (g.2.1 2, n, .inl (fun j => ts_I (f (j : Int))))
abbrev ts_la (g : ts_W) (n : Nat) (h : Int → Int64) : va_E := .inl (g.2.1 1, n, .inr (.inl (fun j => h (j : Int))))
abbrev ts_da (g : ts_W) (n : Nat) (d : Int → UInt64) : va_E := .inl (g.2.1 4, n, .inr (.inr (.inr (.inl (fun j => d (j : Int))))))
abbrev ts_r (g : ts_W) (a : Nat) : Value := .ref (g.2.2.1 a)
abbrev ts_v (x : Int) : Value := .int (ts_I x)
/-- a State's cells, by their places behind it -/
def ts_GS (g : ts_W) (b : Nat) (c : Nat) (f : Int → Int) (h : Int → Int64) : va_E := match c with
  | 0 => .inr (10, [ts_r g (b + 1), ts_r g (b + 6), ts_r g (b + 9), ts_r g (b + 11), ts_r g (b + 13), ts_v (f 5), ts_v (f 6), ts_v (f 7), ts_v (f 8)])
  | 1 => .inr (9, [ts_r g (b + 2), ts_r g (b + 3), ts_r g (b + 4), ts_r g (b + 5), ts_v (f 4), ts_v (f 5), ts_v (f 6), ts_v (f 7)])
  | 2 => ts_ia g 8 f
  | 3 => ts_ia g 8 f
  | 4 => ts_ia g 8 f
  | 5 => ts_ia g 8 f
  | 6 => .inr (6, [ts_r g (b + 7), ts_r g (b + 8), ts_v (f 2), ts_v (f 3)])
  | 7 => ts_ia g 6 f
  | 8 => ts_ia g 6 f
  | 9 => .inr (11, [ts_r g (b + 10), ts_v (f 1), ts_v (f 2), ts_v (f 3), ts_v (f 4)])
  | 10 => ts_ia g 5 f
  | 11 => .inr (4, [.long (h 0), ts_r g (b + 12), ts_v (f 2)])
  | 12 => ts_la g 64 h
  | _ => ts_ia g 20 f
/-- the other cells -/
def ts_GO (g : ts_W) (c : Nat) (f : Int → Int) (h : Int → Int64) (d : Int → UInt64) : va_E := match c with
  | 0 => .inr (12, [ts_r g 0, ts_r g 14, ts_r g 28, ts_r g 158, ts_r g 155, ts_r g 160, ts_r g 177, ts_v (f 7), ts_v (f 8), ts_v (f 9)])
  | 1 => .inr (7, [ts_r g 156, ts_r g 157, ts_v (f 2)])
  | 2 => ts_ia g 36 f
  | 3 => ts_ia g 64 f
  | 4 => .inr (5, [ts_r g 159, ts_v (f 1), ts_v (f 2)])
  | 5 => .inl (g.2.1 5, 8, .inr (.inr (.inr (.inr (fun j => some (ts_ad g (14 * (j + 3))))))))
  | 6 => .inr (8, [ts_r g 161, ts_r g 162, ts_r g 163, ts_v (f 3), ts_v (f 4), ts_v (f 5), ts_v (f 6)])
  | 7 => ts_ca g 60 f
  | 8 => .inl (g.2.1 6, 12, .inr (.inr (.inr (.inr (fun j => ts_cm g (f (j : Int)))))))
  | 9 => ts_ia g 36 f
  | 10 => .inr (13, [ts_v (f 0), ts_r g 165, ts_r g 166, ts_r g 167, ts_r g 168, ts_v (f 5), ts_v (f 6), ts_v (f 7), ts_r g 169, ts_r g 170, ts_r g 171, ts_r g 172, ts_v (f 12), ts_r g 173, ts_v (f 14), ts_v (f 15), ts_v (f 16), ts_v (f 17), ts_r g 174, ts_v (f 19), ts_v (f 20)])
  | 11 => ts_ia g 146 f
  | 12 => ts_ia g 1168 f
  | 13 => ts_ia g 146 f
  | 14 => ts_ia g 146 f
  | 15 => ts_ia g 64 f
  | 16 => ts_ia g 64 f
  | 17 => ts_ia g 64 f
  | 18 => ts_ca g 80 f
  | 19 => ts_ca g 60 f
  | 20 => ts_ia g 3 f
  | 21 => ts_la g 1 h
  | _ => ts_da g 1 d
def ts_G (g : ts_W) (a : Nat) (f : Int → Int) (h : Int → Int64) (d : Int → UInt64) : va_E := if a < 154 then ts_GS g (14 * (a / 14)) (a % 14) f h else ts_GO g (a - 154) f h d
def ts_ws (g : ts_W) (M : ts_M) : va_W := (List.range 177).map fun a => (ts_ad g a, ts_G g a (M.1 a) (M.2.1 a) (M.2.2 a))
/-- a State stands at b -/
def ts_isS (b : Nat) : Prop := ∃ k, k < 11 ∧ b = 14 * k
theorem ts_isS_lt {b : Nat} (h : ts_isS b) : b + 14 ≤ 154 := by obtain ⟨k, h1, rfl⟩ := h; omega
theorem ts_isS_G {b : Nat} (hb : ts_isS b) (c : Nat) (hc : c < 14) (g : ts_W) (f : Int → Int) (h : Int → Int64) (d : Int → UInt64) : ts_G g (b + c) f h d = ts_GS g b c f h := by
  obtain ⟨k, h1, rfl⟩ := hb
  unfold ts_G
  rw [if_pos (by omega), show 14 * ((14 * k + c) / 14) = 14 * k by omega, show (14 * k + c) % 14 = c by omega]
theorem ts_ws_get (g : ts_W) (M : ts_M) (X : va_W) {a : Nat} (h : a < 177) : (ts_ws g M ++ X)[a]? = some (ts_ad g a, ts_G g a (M.1 a) (M.2.1 a) (M.2.2 a)) := by
  rw [List.getElem?_append_left (by simp [ts_ws]; exact h)]
  simp [ts_ws, h]
theorem ts_ws_set (g : ts_W) {M M' : ts_M} (X : va_W) {a : Nat} {e : va_E} (h : a < 177) (he : ts_G g a (M'.1 a) (M'.2.1 a) (M'.2.2 a) = e) (ho : ∀ b, b ≠ a → ts_G g b (M'.1 b) (M'.2.1 b) (M'.2.2 b) = ts_G g b (M.1 b) (M.2.1 b) (M.2.2 b)) :
    (ts_ws g M ++ X).set a (ts_ad g a, e) = ts_ws g M' ++ X := by
  have hl : (ts_ws g M).length = 177 := by simp [ts_ws]
  have hl' : (ts_ws g M').length = 177 := by simp [ts_ws]
  rw [List.set_append_left _ _ (by rw [hl]; exact h)]
  congr 1
  apply List.ext_getElem?
  intro j
  by_cases hj : j = a
  · subst hj
    rw [List.getElem?_set_self (by rw [hl]; exact h)]
    simp [ts_ws, h, he]
  · rw [List.getElem?_set_ne (Ne.symm hj)]
    by_cases hj2 : j < 177
    · simp [ts_ws, hj2, ho j hj]
    · rw [List.getElem?_eq_none (by rw [hl]; omega), List.getElem?_eq_none (by rw [hl']; omega)]
theorem ts_si_ne {M : ts_M} {a : Nat} {k v : Int} {b : Nat} (h : b ≠ a) : (ts_si M a k v).1 b = M.1 b := by funext j; simp [ts_si, h]
theorem ts_sl_ne {M : ts_M} {a : Nat} {k : Int} {v : Int64} {b : Nat} (h : b ≠ a) : (ts_sl M a k v).2.1 b = M.2.1 b := by funext j; simp [ts_sl, h]
theorem ts_sd_ne {M : ts_M} {a : Nat} {k : Int} {v : UInt64} {b : Nat} (h : b ≠ a) : (ts_sd M a k v).2.2 b = M.2.2 b := by funext j; simp [ts_sd, h]
def ts_fu {α : Type} (f : Int → α) (k : Int) (v : α) : Int → α := fun j => if j = k then v else f j
theorem ts_si_eq {M : ts_M} {a : Nat} {k v : Int} : (ts_si M a k v).1 a = ts_fu (M.1 a) k v := by funext j; simp [ts_si, ts_fu]
theorem ts_sl_eq {M : ts_M} {a : Nat} {k : Int} {v : Int64} : (ts_sl M a k v).2.1 a = ts_fu (M.2.1 a) k v := by funext j; simp [ts_sl, ts_fu]
theorem ts_sd_eq {M : ts_M} {a : Nat} {k : Int} {v : UInt64} : (ts_sd M a k v).2.2 a = ts_fu (M.2.2 a) k v := by funext j; simp [ts_sd, ts_fu]
/-- the output text's cells: the object, its bytes (at M.1 177 3, their number M.1 177 2), and a copy under way (at M.1 177 4, none where that is below 0) -/
def ts_XB (g : ts_W) (M : ts_M) : va_W :=
  (ts_ad g 177, .inr (1, [.ref (M.1 177 3).toNat, .int 0, ts_v (M.1 177 1), ts_v (M.1 177 0)])) :: ((M.1 177 3).toNat, .inl (g.2.1 3, (M.1 177 2).toNat, .inl (fun j => ts_I (M.1 178 (j : Int))))) ::
    (if M.1 177 4 < 0 then [] else [((M.1 177 4).toNat, .inl (g.2.1 3, (M.1 177 5).toNat, .inl (fun j => ts_I (M.1 178 (-1 - (j : Int))))))])
def ts_SB (g : ts_W) (M : ts_M) (X : va_W) : Prop := X = ts_XB g M ∧ ∀ j : Int, -128 ≤ M.1 178 j ∧ M.1 178 j < 128
theorem ts_SB_of {g : ts_W} {M M' : ts_M} {X : va_W} (h : ts_SB g M X) (h1 : M'.1 177 = M.1 177) (h2 : M'.1 178 = M.1 178) : ts_SB g M' X := by
  obtain ⟨e1, e2⟩ := h
  exact ⟨by rw [e1]; unfold ts_XB; rw [h1, h2], by rw [h2]; exact e2⟩
abbrev ts_tys (g : ts_W) : List (ClassId × FieldType) := [(g.2.1 0, .int), (g.2.1 1, .long), (g.2.1 2, .char), (g.2.1 3, .byte), (g.2.1 4, .double), (g.2.1 5, .object RX9), (g.2.1 6, .object RX2)]
/-- words that hold in every frame, but for their resolution: nest mates, casts, declared constructors -/
def ts_nw : List Cond := [.methodLinkNest "TeaspoonSalon" 9 ⟨"TeaspoonSalon$State", "<init>", "()V"⟩ "TeaspoonSalon", .methodLinkNest "TeaspoonSalon$State" 11 ⟨"TeaspoonSalon$Spoons", "<init>", "()V"⟩ "TeaspoonSalon", .methodLinkNest "TeaspoonSalon$State" 20 ⟨"TeaspoonSalon$Proposals", "<init>", "()V"⟩ "TeaspoonSalon", .methodLinkNest "TeaspoonSalon$State" 27 ⟨"TeaspoonSalon$Table", "<init>", "()V"⟩ "TeaspoonSalon", .methodLinkNest "TeaspoonSalon$State" 34 ⟨"TeaspoonSalon$Cloth", "<init>", "()V"⟩ "TeaspoonSalon", .methodLinkNest "TeaspoonSalon$History" 15 ⟨"TeaspoonSalon$State", "<init>", "()V"⟩ "TeaspoonSalon", .methodLinkNest "TeaspoonSalon" 31 ⟨"TeaspoonSalon$Ranking", "<init>", "()V"⟩ "TeaspoonSalon", .methodLinkNest "TeaspoonSalon" 38 ⟨"TeaspoonSalon$Script", "<init>", "()V"⟩ "TeaspoonSalon", .castable "[B" "java/lang/Cloneable", .castable "java/lang/IllegalArgumentException" "java/lang/IllegalArgumentException", .declares ⟨"java/lang/RuntimeException", "<init>", "()V"⟩, .declares ⟨"java/lang/RuntimeException", "<init>", "(Ljava/lang/String;)V"⟩, .declares ⟨"java/lang/Exception", "<init>", "()V"⟩, .declares ⟨"java/lang/Exception", "<init>", "(Ljava/lang/String;)V"⟩, .declares ⟨"java/lang/Throwable", "<init>", "()V"⟩, .declares ⟨"java/lang/Throwable", "<init>", "(Ljava/lang/String;)V"⟩, .castable "java/lang/ArrayIndexOutOfBoundsException" "java/lang/ArrayIndexOutOfBoundsException", .declares ⟨"java/lang/IndexOutOfBoundsException", "<init>", "()V"⟩, .declares ⟨"java/lang/IndexOutOfBoundsException", "<init>", "(Ljava/lang/String;)V"⟩, .methodLinkNest "TeaspoonSalon$Table" 37 ⟨"TeaspoonSalon", "isBetween", "(III)Z"⟩ "TeaspoonSalon", .methodLinkNest "TeaspoonSalon$Spoons" 24 ⟨"TeaspoonSalon", "copyRow", "([I[I)V"⟩ "TeaspoonSalon", .methodLinkNest "TeaspoonSalon$Proposals" 18 ⟨"TeaspoonSalon", "copyRow", "([I[I)V"⟩ "TeaspoonSalon", .methodLinkNest "TeaspoonSalon$Table" 15 ⟨"TeaspoonSalon", "copyRow", "([I[I)V"⟩ "TeaspoonSalon", .methodLinkNest "TeaspoonSalon$State" 57 ⟨"TeaspoonSalon", "copyRow", "([I[I)V"⟩ "TeaspoonSalon", .declares ⟨"java/lang/Enum", "ordinal", "()I"⟩, .methodLinkNest "TeaspoonSalon$State" 109 ⟨"TeaspoonSalon", "isBetween", "(III)Z"⟩ "TeaspoonSalon", .methodLinkNest "TeaspoonSalon$Cloth" 13 ⟨"TeaspoonSalon", "isBetween", "(III)Z"⟩ "TeaspoonSalon", .castable "java/lang/IllegalStateException" "java/lang/IllegalStateException", .castable "java/lang/IndexOutOfBoundsException" "java/lang/IndexOutOfBoundsException", .castable "java/util/NoSuchElementException" "java/util/NoSuchElementException", .castable "java/lang/UnsupportedOperationException" "java/lang/UnsupportedOperationException", .castable "java/lang/ArithmeticException" "java/lang/ArithmeticException", .fieldLinkNest "TeaspoonSalon$Script" 43 "TeaspoonSalon$Command" "ALL" "[LTeaspoonSalon$Command;" "TeaspoonSalon", .methodLinkNest "TeaspoonSalon$Script" 83 ⟨"TeaspoonSalon", "isBetween", "(III)Z"⟩ "TeaspoonSalon", .castable "java/lang/ArrayIndexOutOfBoundsException" "java/lang/IndexOutOfBoundsException", .castable "java/lang/StringIndexOutOfBoundsException" "java/lang/IndexOutOfBoundsException", .castable "TeaspoonSalon" "java/lang/Object", .castable "TeaspoonSalon$State" "java/lang/Object", .castable "TeaspoonSalon$Spoons" "java/lang/Object", .castable "TeaspoonSalon$Proposals" "java/lang/Object", .castable "TeaspoonSalon$Table" "java/lang/Object", .castable "TeaspoonSalon$Cloth" "java/lang/Object", .castable "TeaspoonSalon$History" "java/lang/Object", .castable "TeaspoonSalon$Ranking" "java/lang/Object", .castable "TeaspoonSalon$Script" "java/lang/Object", .castable "java/lang/StringBuilder" "java/lang/Object", .castable "TeaspoonSalonModel" "java/lang/Object", .castable "TeaspoonSalon$Command" "java/lang/Object", .castable "TeaspoonSalon$Refusal" "java/lang/Object", .castable "java/lang/IllegalArgumentException" "java/lang/Object", .castable "java/lang/IllegalStateException" "java/lang/Object", .castable "java/lang/IndexOutOfBoundsException" "java/lang/Object", .castable "java/util/NoSuchElementException" "java/lang/Object", .castable "java/lang/UnsupportedOperationException" "java/lang/Object", .castable "java/lang/ArrayIndexOutOfBoundsException" "java/lang/Object", .castable "java/lang/ArithmeticException" "java/lang/Object", .castable "java/lang/StringIndexOutOfBoundsException" "java/lang/Object", .castable "java/lang/String" "java/lang/Object", .castable "java/lang/Throwable" "java/lang/Object", .fieldLinkNest "TeaspoonSalon$Script" 46 "TeaspoonSalon$Command" "form" "Ljava/lang/String;" "TeaspoonSalon"]
/-- String constants by class, place and text, with the place of the address -/
def ts_strs : List (String × Nat × String × Nat) := [("TeaspoonSalon$Table", 41, "mapcj", 112), ("TeaspoonSalon", 433, "an argument is out of its range", 200), ("TeaspoonSalon", 438, "the state of the salon does not allow this", 201), ("TeaspoonSalon", 443, "there is no such spoon or cell", 202), ("TeaspoonSalon", 448, "there is no such proposal or motion", 203), ("TeaspoonSalon", 455, "this cannot be done now", 204), ("TeaspoonSalon", 471, "there is no such spoon", 205), ("TeaspoonSalon", 478, "the list has no such place", 206), ("TeaspoonSalon", 480, "no such proposal is on the list", 207), ("TeaspoonSalon", 159, "no motion lies at this place", 208), ("TeaspoonSalon", 172, "no amendment lies on the table", 209), ("TeaspoonSalon", 177, "no main motion lies on the table", 210), ("TeaspoonSalon", 185, "mapcj", 112), ("TeaspoonSalon", 194, "there is no such kind of motion", 211), ("TeaspoonSalon", 482, "the table is empty", 212), ("TeaspoonSalon", 476, "there is no such cell", 213), ("TeaspoonSalon", 290, "there is no such rank", 214), ("TeaspoonSalon", 301, "the minutes keep no such place", 215), ("TeaspoonSalon", 317, "there are no spoons", 216), ("TeaspoonSalon", 326, "there was no vote", 217), ("TeaspoonSalon", 359, "the output text has no such index", 218), ("TeaspoonSalon", 365, "the character cannot be typed", 219), ("TeaspoonSalon", 372, "the script buffer is full", 220), ("TeaspoonSalon", 385, "the script does not have the required form", 221), ("TeaspoonSalon", 390, "a command of the script failed", 222), ("TeaspoonSalon", 401, "every script had the required form", 223), ("TeaspoonSalon", 403, "no script had a failed command", 224), ("TeaspoonSalon", 406, "there is nothing to undo", 225), ("TeaspoonSalon", 411, "there is no snapshot", 226)]
/-- throws that a handler lets by -/
def ts_nc : List (String × String) := [("java/lang/IllegalStateException", "java/lang/IllegalArgumentException"), ("java/lang/IndexOutOfBoundsException", "java/lang/IllegalArgumentException"), ("java/util/NoSuchElementException", "java/lang/IllegalArgumentException"), ("java/lang/UnsupportedOperationException", "java/lang/IllegalArgumentException"), ("java/lang/ArithmeticException", "java/lang/IllegalArgumentException"), ("java/lang/IllegalArgumentException", "java/lang/IllegalStateException"), ("java/lang/IndexOutOfBoundsException", "java/lang/IllegalStateException"), ("java/util/NoSuchElementException", "java/lang/IllegalStateException"), ("java/lang/UnsupportedOperationException", "java/lang/IllegalStateException"), ("java/lang/ArithmeticException", "java/lang/IllegalStateException"), ("java/lang/IllegalArgumentException", "java/util/NoSuchElementException"), ("java/lang/IllegalStateException", "java/util/NoSuchElementException"), ("java/lang/IndexOutOfBoundsException", "java/util/NoSuchElementException"), ("java/lang/UnsupportedOperationException", "java/util/NoSuchElementException"), ("java/lang/ArithmeticException", "java/util/NoSuchElementException"), ("java/lang/IllegalArgumentException", "java/lang/UnsupportedOperationException"), ("java/lang/IllegalStateException", "java/lang/UnsupportedOperationException"), ("java/lang/IndexOutOfBoundsException", "java/lang/UnsupportedOperationException"), ("java/util/NoSuchElementException", "java/lang/UnsupportedOperationException"), ("java/lang/ArithmeticException", "java/lang/UnsupportedOperationException"), ("java/lang/IllegalArgumentException", "java/lang/IndexOutOfBoundsException"), ("java/lang/IllegalStateException", "java/lang/IndexOutOfBoundsException"), ("java/util/NoSuchElementException", "java/lang/IndexOutOfBoundsException"), ("java/lang/UnsupportedOperationException", "java/lang/IndexOutOfBoundsException"), ("java/lang/ArithmeticException", "java/lang/IndexOutOfBoundsException"), ("java/lang/IllegalArgumentException", "java/lang/ArithmeticException"), ("java/lang/IllegalStateException", "java/lang/ArithmeticException"), ("java/lang/IndexOutOfBoundsException", "java/lang/ArithmeticException"), ("java/util/NoSuchElementException", "java/lang/ArithmeticException"), ("java/lang/UnsupportedOperationException", "java/lang/ArithmeticException")]
def ts_len : List Nat := [9, 9, 6, 7, 8, 5, 7, 7, 4, 10, 6, 9, 5]
def ts_byt : List (List Int32) := [[115, 112, 111, 111, 110, 32, 68, 32, 78], [112, 114, 111, 112, 111, 115, 101, 32, 78], [109, 111, 118, 101, 32, 78], [97, 109, 101, 110, 100, 32, 83], [112, 111, 115, 116, 112, 111, 110, 101], [99, 108, 111, 115, 101], [97, 100, 106, 111, 117, 114, 110], [115, 112, 101, 97, 107, 32, 68], [118, 111, 116, 101], [115, 112, 105, 108, 108, 32, 68, 68, 32, 78], [109, 111, 112, 32, 68, 68], [115, 117, 103, 97, 114, 32, 68, 32, 68], [109, 97, 112, 99, 106]]
def ts_cmds : List String := ["SPOON", "PROPOSE", "MOVE", "AMEND", "POSTPONE", "CLOSE", "ADJOURN", "SPEAK", "VOTE", "SPILL", "MOP", "SUGAR"]
def ts_rfs : List String := ["NOTHING", "ARGUMENT", "STATE", "INDEX", "ELEMENT", "OPERATION"]
def ts_nwk : Cond → Bool
  | .methodLinkNest .. | .fieldLinkNest .. | .castable .. | .declares .. => true
  | _ => false
theorem ts_nw_k : ∀ w ∈ ts_nw, ts_nwk w = true := by decide +kernel
theorem ts_nw_warm {w : Cond} (hk : ts_nwk w = true) {s U : State} (hW : s.WarmedH U.vm) (h : va_Nw w s) : va_Nw w U := by
  cases w <;> first | exact va_Nw.warmM hW h | exact va_Nw.warmF hW h | exact va_Nw.warmC hW h | exact va_Nw.warmD hW h | exact absurd hk (by simp [ts_nwk])
theorem ts_nw_tab {w : Cond} (hk : ts_nwk w = true) : w.onTables = true := by
  cases w <;> first | rfl | exact absurd hk (by simp [ts_nwk])
abbrev ts_sx (g : ts_W) (a : Nat) : Nat := g.2.2.2.1 a
/-- private methods of a class above: their selection on the output text -/
def ts_pv : List Cond := [.selects RJ4 ⟨RJ5, "ensureCapacityInternal", "(I)V"⟩ ⟨RJ5, "ensureCapacityInternal", "(I)V"⟩, .selects RJ4 ⟨RJ5, "newCapacity", "(I)I"⟩ ⟨RJ5, "newCapacity", "(I)I"⟩]
theorem ts_pv_k : ∀ w ∈ ts_pv, (w.onTables && w.keeps) = true := by decide +kernel
/-- what stands in the tables and stays -/
def ts_Sw (g : ts_W) (U : State) : Prop := (∀ w ∈ ts_nw, va_Nw w U) ∧ (∀ q ∈ ts_strs, vk_R q.1 q.2.1 q.2.2.1 (ts_sx g q.2.2.2) U) ∧ (∀ q ∈ ts_nc, va_Nc q.1 q.2 U) ∧ ∀ w ∈ ts_pv, va_Nw w U
/-- what stands in the heap from the start and is never written: constants, their texts, arrays of the class's own and of the JDK -/
def ts_Sh (g : ts_W) (U : State) (H : Heap) : Prop :=
  vx_Zq Bundle.tN "UNASSIGNED_STACK" Bundle.steD (ts_A g) U H ∧ vx_Zq Bundle.tN "SUPPRESSED_SENTINEL" Bundle.listD (ts_A g) U H ∧
  va_En RX2 "LTeaspoonSalon$Command;" ts_cmds [("java/lang/Enum", "ordinal", "I", [0, 1, 2, 3, 4, 5, 6, 7, 8, 9, 10, 11])] (ts_sx g) (ts_A g) U H ∧
  (∀ i : Nat, i < 12 → va_OF RX2 "form" "Ljava/lang/String;" (.ref (ts_sx g (100 + i))) (ts_sx g i) (ts_A g) U H) ∧
  va_En RX6 "LTeaspoonSalon$Refusal;" ts_rfs [] (fun i => ts_sx g (50 + i)) (ts_A g) U H ∧
  vk_S 13 ts_len ts_byt (fun i => ts_sx g (100 + i)) (fun i => ts_sx g (120 + i)) (ts_A g) U H ∧
  (va_Z RX2 "ALL" "[LTeaspoonSalon$Command;" (.ref (ts_sx g 140)) (ts_A g) U H ∧ va_T (.object RX2) (ts_sx g 140) 12 (fun j => .ref (ts_sx g j)) (ts_A g) U H) ∧
  (va_Z RX0 "$SwitchMap$TeaspoonSalon$Command" "[I" (.ref (ts_sx g 141)) (ts_A g) U H ∧ va_T .int (ts_sx g 141) 12 (fun j => .int (Int32.ofNat (j + 1))) (ts_A g) U H) ∧
  va_Z RJ0 "COMPACT_STRINGS" "Z" (.int 1) (ts_A g) U H ∧
  (va_Z RJ6 "DigitTens" "[B" (.ref (ts_sx g 142)) (ts_A g) U H ∧ va_T .byte (ts_sx g 142) 100 (fun j => .int (Int32.ofNat (48 + j / 10))) (ts_A g) U H) ∧
  (va_Z RJ6 "DigitOnes" "[B" (.ref (ts_sx g 143)) (ts_A g) U H ∧ va_T .byte (ts_sx g 143) 100 (fun j => .int (Int32.ofNat (48 + j % 10))) (ts_A g) U H) ∧
  va_Zq "jdk/internal/util/Preconditions" "SIOOBE_FORMATTER" "Ljava/util/function/BiFunction;" (ts_A g) U H
theorem ts_Sw.warm {g : ts_W} {s U : State} (hW : s.WarmedH U.vm) (h : ts_Sw g s) : ts_Sw g U :=
  ⟨fun w hw => ts_nw_warm (ts_nw_k w hw) hW (h.1 w hw), fun q hq => (h.2.1 q hq).warm hW, fun q hq => (h.2.2.1 q hq).moved hW.alike, fun w hw => word_at (args := #[]) hW (Or.inl (ts_pv_k w hw)) (h.2.2.2 w hw)⟩
theorem ts_Sw.same {g : ts_W} {u U : State} (hv : U.vm = u.vm) (h : ts_Sw g u) : ts_Sw g U :=
  ⟨fun w hw => (h.1 w hw).same (ts_nw_tab (ts_nw_k w hw)) hv.symm, fun q hq => (h.2.1 q hq).same hv, fun q hq => (h.2.2.1 q hq).moved (hv ▸ Vm.Alike.refl u.vm), fun w hw => (h.2.2.2 w hw).same ((Bool.and_eq_true _ _).mp (ts_pv_k w hw)).1 hv.symm⟩
theorem ts_Sh.moved {g : ts_W} {u U : State} {H : Heap} (hvm : u.vm.Alike U.vm) (h : ts_Sh g u H) : ts_Sh g U H := by
  obtain ⟨h1, h2, h3, h4, h5, h6, h7, h8, h9, h10, h11, h12⟩ := h
  exact ⟨h1.moved hvm, h2.moved hvm, h3.moved hvm, fun i hi => (h4 i hi).moved hvm, h5.moved hvm, h6.moved hvm, ⟨h7.1.moved hvm, h7.2.moved hvm⟩, ⟨h8.1.moved hvm, h8.2.moved hvm⟩, h9.moved hvm, ⟨h10.1.moved hvm, h10.2.moved hvm⟩, ⟨h11.1.moved hvm, h11.2.moved hvm⟩, h12.moved hvm⟩
theorem ts_Sh.kept {g : ts_W} {U : State} {H H1 : Heap} (h : ts_Sh g U H) (hq : ∀ a : Nat, a < H.size → ¬ ts_A g a → H1[a]? = H[a]?) : ts_Sh g U H1 := by
  obtain ⟨h1, h2, h3, h4, h5, h6, h7, h8, h9, h10, h11, h12⟩ := h
  exact ⟨h1.kept hq, h2.kept hq, h3.kept hq, fun i hi => (h4 i hi).kept hq, h5.kept hq, h6.kept hq, ⟨h7.1.kept hq, h7.2.kept hq⟩, ⟨h8.1.kept hq, h8.2.kept hq⟩, h9.kept hq, ⟨h10.1.kept hq, h10.2.kept hq⟩, ⟨h11.1.kept hq, h11.2.kept hq⟩, h12.kept hq⟩
/-- a state of the machine that holds our world M -/
def ts_At (g : ts_W) (M : ts_M) (U : State) : Prop :=
  (∃ X, ts_SB g M X ∧ va_P g.1 vwCl (ts_ws g M ++ X) U.heap ∧ va_D (ts_A g) (ts_ws g M ++ X)) ∧ va_K g.1 vwCl (ts_tys g) U ∧ ts_Sw g U ∧ ts_Sh g U U.heap ∧ ∀ q : Nat, U.heap.size ≤ q → ts_A g q
def ts_rm (d mc ms : Nat) : Room := { frames := d, cells := mc, slots := ms, locals := 40 * d }
/-- how a method ends that returns: its answer and the world behind it -/
def ts_Q (g : ts_W) (Qr : Option Value → ts_M → Prop) : Array Value → State → Outcome → State → Prop := fun _ st o t => ∃ (v : Option Value) (M : ts_M), o = .returned v ∧ Qr v M ∧ ts_At g M t ∧ va_F (ts_A g) st t
/-- a contract -/
def ts_Con (l : Launch) (g : ts_W) (y : MethodName) (cc : ByteArray) (maxL : Nat) (ret : Option FieldType) (d mc ms : Nat) (av : List Value) (M : ts_M) (Qr : Option Value → ts_M → Prop) : Prop :=
  Met l y (.code y cc maxL ret :: lw_good) (ts_rm d mc ms) (va_Pc av (ts_At g M)) (ts_Q g Qr) mc ms (ts_A g)
/-- a contract of a method that may throw: the class of what it throws, and the world then -/
def ts_X (g : ts_W) (Qx : String → ts_M → Prop) : String → State → State → Prop := fun E st t => ∃ M : ts_M, Qx E M ∧ (∃ X, ts_SB g M X ∧ va_P g.1 vwCl (ts_ws g M ++ X) t.heap ∧ va_D (ts_A g) (ts_ws g M ++ X)) ∧ va_F (ts_A g) st t
def ts_ConX (l : Launch) (g : ts_W) (y : MethodName) (cc : ByteArray) (maxL : Nat) (ret : Option FieldType) (d mc ms : Nat) (av : List Value) (M : ts_M) (Qr : Option Value → ts_M → Prop) (Qx : String → ts_M → Prop) : Prop :=
  vx_Met l y (.code y cc maxL ret :: lw_good) (ts_rm d mc ms) (va_Pc av (ts_At g M)) (ts_Q g Qr) (ts_X g Qx) mc ms (ts_A g)
/-- what a frame knows -/
def ts_C (p : Program) (l : Launch) (s : State) (m : MethodId) (args : Array Value) (meth : Method) (c : Code) (g : ts_W) (cc : ByteArray) (own : String) (nL : Nat) (ret : Option FieldType) : Prop :=
  p.tables.exec = Jvm.exec ∧ c.code = cc ∧ c.maxLocals = nL ∧ s.vm.findClass own = some m.cls ∧ (∀ w ∈ lw_good, w.before args s = true) ∧ meth.sig.returnType = ret ∧ meth.locks = false ∧ va_K g.1 vwCl (ts_tys g) s ∧ ts_Sw g s ∧ ts_Sh g s s.heap ∧ (∀ q : Nat, s.heap.size ≤ q → ts_A g q) ∧ l.stackTraces = false
def ts_V (p : Program) (l : Launch) (e : Env) (R : Room) (s : State) (m : MethodId) (args : Array Value) (below : List Frame) (meth : Method) (c : Code) (g : ts_W) (nL ck sk : Nat) (Q : State → Prop) (pc : Nat) (lv : List (Nat × Value)) (st : List Value) (M : ts_M) : Prop :=
  ∀ (X : va_W) (H : Heap) (locs : List Loc) (ls : Array Slot), ts_SB g M X → va_P g.1 vwCl (ts_ws g M ++ X) H → va_D (ts_A g) (ts_ws g M ++ X) → va_S (ts_A g) s.heap H locs → lv_has ls nL lv → W p l e R s m args below meth c H locs ck sk Q (F0 m pc ls st)
theorem ts_At.blind {g : ts_W} {M : ts_M} {U : State} {a : Array Value} {fr : JFrame} {mk : MethodId} (h : ts_At g M U) : ts_At g M (U.calling fr mk a) := by
  obtain ⟨h1, h2, h3, h4, h5⟩ := h
  exact ⟨h1, va_K.moved (u := U) (U := U.calling fr mk a) (Vm.Alike.refl U.vm) h2, ts_Sw.same (u := U) (U := U.calling fr mk a) rfl h3, ts_Sh.moved (u := U) (U := U.calling fr mk a) (Vm.Alike.refl U.vm) h4, h5⟩
theorem ts_blind {g : ts_W} {M : ts_M} {av : List Value} : FrameBlind (va_Pc av (ts_At g M)) := fun _ _ _ _ q => ⟨q.1, q.2.blind⟩
/-- the world at a call, out of the frame's own facts -/
theorem ts_At.mk {g : ts_W} {M : ts_M} {s U : State} {X : va_W} {H : Heap} {locs : List Loc} (hK : va_K g.1 vwCl (ts_tys g) s) (hw : ts_Sw g s) (hh : ts_Sh g s s.heap) (hA : ∀ q : Nat, s.heap.size ≤ q → ts_A g q) (hB : ts_SB g M X) (hP : va_P g.1 vwCl (ts_ws g M ++ X) H) (hD : va_D (ts_A g) (ts_ws g M ++ X)) (hS : va_S (ts_A g) s.heap H locs) (hU : U.heap = H) (hW : s.WarmedH U.vm) : ts_At g M U := by
  subst hU
  exact ⟨⟨X, hB, hP, hD⟩, hK.moved hW.alike, hw.warm hW, (hh.kept hS.2.1).moved hW.alike, fun q hq => hA q (Nat.le_trans hS.1 hq)⟩
section TSR
variable {p : Program} {l : Launch} {e : Env} {R : Room} {s : State} {m : MethodId} {args : Array Value} {below : List Frame} {meth : Method} {c : Code} {Q : State → Prop}
variable {g : ts_W} {cc : ByteArray} {own : String} {nL ck sk : Nat} {ret : Option FieldType} {P : Prop} {pc : Nat} {lv : List (Nat × Value)} {st : List Value} {M : ts_M}
/-- a body that returns -/
theorem ts_Con.of {y : MethodName} {cc : ByteArray} {maxL : Nat} {ret : Option FieldType} {d mc ms : Nat} {av : List Value} {M : ts_M} {Qr : Option Value → ts_M → Prop} (hl : l.stackTraces = false) (hy : plainName y.cls = true) (hn : (lg_sl av).length ≤ maxL)
    (body : ∀ p e s m args below meth c, ts_C p l s m args meth c g cc y.cls maxL ret → ts_V p l e (ts_rm d mc ms) s m args below meth c g maxL 0 0 (MQ below (ts_Q g Qr) args s mc ms (ts_A g)) 0 (lv_args 0 av) [] M) : ts_Con l g y cc maxL ret d mc ms av M Qr := by
  refine Met.ofW (cc := cc) (maxL := maxL) (ret := ret) hy rfl ?_
  intro p e s m args below meth c s₁ B hml hv
  obtain ⟨hv0, ⟨X, hB, hP, hD⟩, hK, hw, hh, hA⟩ := hv
  have hts := atoms_spec (ws := Cond.code y cc maxL ret :: lw_good) B.pre
  have hC : ts_C p l s m args meth c g cc y.cls maxL ret := ⟨B.exec, B.bytes, hml, findClass_of_methodNamed B.named, fun w h => hts w (List.mem_cons_of_mem _ h), B.returns, B.notSynchronized, hK, hw, hh, hA, hl⟩
  subst hv0
  have hl0 := lv_entry av (n := maxL) hn
  rw [lg_entry_eq]
  exact body p e s m _ below meth c hC X s.heap [] _ hB hP hD va_S.rf hl0
/-- a body that returns or throws -/
theorem ts_ConX.of {y : MethodName} {cc : ByteArray} {maxL : Nat} {ret : Option FieldType} {d mc ms : Nat} {av : List Value} {M : ts_M} {Qr : Option Value → ts_M → Prop} {Qx : String → ts_M → Prop} (hl : l.stackTraces = false) (hy : plainName y.cls = true) (hn : (lg_sl av).length ≤ maxL)
    (body : ∀ p e s m args below meth c, (∀ x ∈ c.exceptionTable.toList, False) → ts_C p l s m args meth c g cc y.cls maxL ret → ts_V p l e (ts_rm d mc ms) s m args below meth c g maxL 0 0 (vx_MQ below (ts_Q g Qr) (ts_X g Qx) args s mc ms (ts_A g)) 0 (lv_args 0 av) [] M) : ts_ConX l g y cc maxL ret d mc ms av M Qr Qx := by
  refine vx_ofW (cc := cc) (maxL := maxL) (ret := ret) hy rfl ?_
  intro p e s m args below meth c s₁ B hml ht hv
  obtain ⟨hv0, ⟨X, hB, hP, hD⟩, hK, hw, hh, hA⟩ := hv
  have hts := atoms_spec (ws := Cond.code y cc maxL ret :: lw_good) B.pre
  have hC : ts_C p l s m args meth c g cc y.cls maxL ret := ⟨B.exec, B.bytes, hml, findClass_of_methodNamed B.named, fun w h => hts w (List.mem_cons_of_mem _ h), B.returns, B.notSynchronized, hK, hw, hh, hA, hl⟩
  subst hv0
  have hl0 := lv_entry av (n := maxL) hn
  rw [lg_entry_eq]
  exact body p e s m _ below meth c ht hC X s.heap [] _ hB hP hD va_S.rf hl0
end TSR
