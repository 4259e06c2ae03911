def wL_law_B2953 (L : Nat) (xs : Nat → Int32) (k28 : Int → ts_M → Prop) (Q : Int → ts_M → Prop)  (y5 : Int) (M : ts_M) : Prop :=
  (∀ x9 : Int, x9 = y5 + 4 → k28 x9 M)
def wL_law_B365 (L : Nat) (xs : Nat → Int32) (k28 : Int → ts_M → Prop) (Q : Int → ts_M → Prop)  (y5 : Int) (M : ts_M) : Prop :=
  wL_law_B2953 L xs k28 Q y5 M
def wL_law_B300 (L : Nat) (xs : Nat → Int32) (k28 : Int → ts_M → Prop) (Q : Int → ts_M → Prop)  (y5 : Int) (M : ts_M) : Prop :=
  ((0 ≤ ts_w (y5 + 1) ∧ ts_w (y5 + 1) < (L : Int)) ∧ ((0 ≤ ts_w (y5 + 2) ∧ ts_w (y5 + 2) < (L : Int)) ∧ (wL_addSpoon (ts_xs xs (ts_w (y5 + 1))) (ts_xs xs (ts_w (y5 + 2))) (fun r2 M1 => (∀ x3 : Int, x3 = r2 → ((0 ≤ ts_w (y5 + 1) ∧ ts_w (y5 + 1) < (L : Int)) ∧ ((0 ≤ ts_w (y5 + 2) ∧ ts_w (y5 + 2) < (L : Int)) ∧ (wX12_addSpoon (ts_xs xs (ts_w (y5 + 1))) (ts_xs xs (ts_w (y5 + 2))) (fun r5 M4 => (∀ x6 : Int, x6 = r5 → (wX12_thrown  (fun r8 M7 => ((ts_w r8 = ts_w x3 → ((¬ (ts_w x3 = 0) → wL_law_B365 L xs k28 Q y5 M7) ∧ (ts_w x3 = 0 → ((M7.2.1 175 0 = ts_L x6 → wL_law_B365 L xs k28 Q y5 M7) ∧ (¬ (M7.2.1 175 0 = ts_L x6) → Q 0 M7))))) ∧ (¬ (ts_w r8 = ts_w x3) → Q 0 M7))) M4))) M1))))) M)))
def wL_law_B421 (L : Nat) (xs : Nat → Int32) (k28 : Int → ts_M → Prop) (Q : Int → ts_M → Prop)  (y5 : Int) (M : ts_M) : Prop :=
  wL_law_B2953 L xs k28 Q y5 M
def wL_law_B368 (L : Nat) (xs : Nat → Int32) (k28 : Int → ts_M → Prop) (Q : Int → ts_M → Prop)  (y5 : Int) (M : ts_M) : Prop :=
  ((0 ≤ ts_w (y5 + 1) ∧ ts_w (y5 + 1) < (L : Int)) ∧ (wL_propose (ts_xs xs (ts_w (y5 + 1))) (fun r11 M10 => (∀ x12 : Int, x12 = r11 → ((0 ≤ ts_w (y5 + 1) ∧ ts_w (y5 + 1) < (L : Int)) ∧ (wX12_propose (ts_xs xs (ts_w (y5 + 1))) (fun r14 M13 => (∀ x15 : Int, x15 = r14 → (wX12_thrown  (fun r17 M16 => ((ts_w r17 = ts_w x12 → ((¬ (ts_w x12 = 0) → wL_law_B421 L xs k28 Q y5 M16) ∧ (ts_w x12 = 0 → ((M16.2.1 175 0 = ts_L x15 → wL_law_B421 L xs k28 Q y5 M16) ∧ (¬ (M16.2.1 175 0 = ts_L x15) → Q 0 M16))))) ∧ (¬ (ts_w r17 = ts_w x12) → Q 0 M16))) M13))) M10)))) M))
def wL_law_B477 (L : Nat) (xs : Nat → Int32) (k28 : Int → ts_M → Prop) (Q : Int → ts_M → Prop)  (y5 : Int) (M : ts_M) : Prop :=
  wL_law_B2953 L xs k28 Q y5 M
def wL_law_B424 (L : Nat) (xs : Nat → Int32) (k28 : Int → ts_M → Prop) (Q : Int → ts_M → Prop)  (y5 : Int) (M : ts_M) : Prop :=
  ((0 ≤ ts_w (y5 + 1) ∧ ts_w (y5 + 1) < (L : Int)) ∧ (wL_moveMain (ts_xs xs (ts_w (y5 + 1))) (fun r19 M18 => (∀ x20 : Int, x20 = r19 → ((0 ≤ ts_w (y5 + 1) ∧ ts_w (y5 + 1) < (L : Int)) ∧ (wX12_moveMain (ts_xs xs (ts_w (y5 + 1))) (fun r22 M21 => (∀ x23 : Int, x23 = r22 → (wX12_thrown  (fun r25 M24 => ((ts_w r25 = ts_w x20 → ((¬ (ts_w x20 = 0) → wL_law_B477 L xs k28 Q y5 M24) ∧ (ts_w x20 = 0 → ((M24.2.1 175 0 = ts_L x23 → wL_law_B477 L xs k28 Q y5 M24) ∧ (¬ (M24.2.1 175 0 = ts_L x23) → Q 0 M24))))) ∧ (¬ (ts_w r25 = ts_w x20) → Q 0 M24))) M21))) M18)))) M))
def wL_law_B533 (L : Nat) (xs : Nat → Int32) (k28 : Int → ts_M → Prop) (Q : Int → ts_M → Prop)  (y5 : Int) (M : ts_M) : Prop :=
  wL_law_B2953 L xs k28 Q y5 M
def wL_law_B480 (L : Nat) (xs : Nat → Int32) (k28 : Int → ts_M → Prop) (Q : Int → ts_M → Prop)  (y5 : Int) (M : ts_M) : Prop :=
  ((0 ≤ ts_w (y5 + 1) ∧ ts_w (y5 + 1) < (L : Int)) ∧ (wL_moveAmendment (ts_xs xs (ts_w (y5 + 1))) (fun r27 M26 => (∀ x28 : Int, x28 = r27 → ((0 ≤ ts_w (y5 + 1) ∧ ts_w (y5 + 1) < (L : Int)) ∧ (wX12_moveAmendment (ts_xs xs (ts_w (y5 + 1))) (fun r30 M29 => (∀ x31 : Int, x31 = r30 → (wX12_thrown  (fun r33 M32 => ((ts_w r33 = ts_w x28 → ((¬ (ts_w x28 = 0) → wL_law_B533 L xs k28 Q y5 M32) ∧ (ts_w x28 = 0 → ((M32.2.1 175 0 = ts_L x31 → wL_law_B533 L xs k28 Q y5 M32) ∧ (¬ (M32.2.1 175 0 = ts_L x31) → Q 0 M32))))) ∧ (¬ (ts_w r33 = ts_w x28) → Q 0 M32))) M29))) M26)))) M))
def wL_law_B577 (L : Nat) (xs : Nat → Int32) (k28 : Int → ts_M → Prop) (Q : Int → ts_M → Prop)  (y5 : Int) (M : ts_M) : Prop :=
  wL_law_B2953 L xs k28 Q y5 M
def wL_law_B536 (L : Nat) (xs : Nat → Int32) (k28 : Int → ts_M → Prop) (Q : Int → ts_M → Prop)  (y5 : Int) (M : ts_M) : Prop :=
  (wL_movePostponement  (fun r35 M34 => (∀ x36 : Int, x36 = r35 → (wX12_movePostponement  (fun r38 M37 => (∀ x39 : Int, x39 = r38 → (wX12_thrown  (fun r41 M40 => ((ts_w r41 = ts_w x36 → ((¬ (ts_w x36 = 0) → wL_law_B577 L xs k28 Q y5 M40) ∧ (ts_w x36 = 0 → ((M40.2.1 175 0 = ts_L x39 → wL_law_B577 L xs k28 Q y5 M40) ∧ (¬ (M40.2.1 175 0 = ts_L x39) → Q 0 M40))))) ∧ (¬ (ts_w r41 = ts_w x36) → Q 0 M40))) M37))) M34))) M)
def wL_law_B621 (L : Nat) (xs : Nat → Int32) (k28 : Int → ts_M → Prop) (Q : Int → ts_M → Prop)  (y5 : Int) (M : ts_M) : Prop :=
  wL_law_B2953 L xs k28 Q y5 M
def wL_law_B580 (L : Nat) (xs : Nat → Int32) (k28 : Int → ts_M → Prop) (Q : Int → ts_M → Prop)  (y5 : Int) (M : ts_M) : Prop :=
  (wL_moveClosure  (fun r43 M42 => (∀ x44 : Int, x44 = r43 → (wX12_moveClosure  (fun r46 M45 => (∀ x47 : Int, x47 = r46 → (wX12_thrown  (fun r49 M48 => ((ts_w r49 = ts_w x44 → ((¬ (ts_w x44 = 0) → wL_law_B621 L xs k28 Q y5 M48) ∧ (ts_w x44 = 0 → ((M48.2.1 175 0 = ts_L x47 → wL_law_B621 L xs k28 Q y5 M48) ∧ (¬ (M48.2.1 175 0 = ts_L x47) → Q 0 M48))))) ∧ (¬ (ts_w r49 = ts_w x44) → Q 0 M48))) M45))) M42))) M)
def wL_law_B665 (L : Nat) (xs : Nat → Int32) (k28 : Int → ts_M → Prop) (Q : Int → ts_M → Prop)  (y5 : Int) (M : ts_M) : Prop :=
  wL_law_B2953 L xs k28 Q y5 M
def wL_law_B624 (L : Nat) (xs : Nat → Int32) (k28 : Int → ts_M → Prop) (Q : Int → ts_M → Prop)  (y5 : Int) (M : ts_M) : Prop :=
  (wL_moveAdjournment  (fun r51 M50 => (∀ x52 : Int, x52 = r51 → (wX12_moveAdjournment  (fun r54 M53 => (∀ x55 : Int, x55 = r54 → (wX12_thrown  (fun r57 M56 => ((ts_w r57 = ts_w x52 → ((¬ (ts_w x52 = 0) → wL_law_B665 L xs k28 Q y5 M56) ∧ (ts_w x52 = 0 → ((M56.2.1 175 0 = ts_L x55 → wL_law_B665 L xs k28 Q y5 M56) ∧ (¬ (M56.2.1 175 0 = ts_L x55) → Q 0 M56))))) ∧ (¬ (ts_w r57 = ts_w x52) → Q 0 M56))) M53))) M50))) M)
def wL_law_B721 (L : Nat) (xs : Nat → Int32) (k28 : Int → ts_M → Prop) (Q : Int → ts_M → Prop)  (y5 : Int) (M : ts_M) : Prop :=
  wL_law_B2953 L xs k28 Q y5 M
def wL_law_B668 (L : Nat) (xs : Nat → Int32) (k28 : Int → ts_M → Prop) (Q : Int → ts_M → Prop)  (y5 : Int) (M : ts_M) : Prop :=
  ((0 ≤ ts_w (y5 + 1) ∧ ts_w (y5 + 1) < (L : Int)) ∧ (wL_speak (ts_xs xs (ts_w (y5 + 1))) (fun r59 M58 => (∀ x60 : Int, x60 = r59 → ((0 ≤ ts_w (y5 + 1) ∧ ts_w (y5 + 1) < (L : Int)) ∧ (wX12_speak (ts_xs xs (ts_w (y5 + 1))) (fun r62 M61 => (∀ x63 : Int, x63 = r62 → (wX12_thrown  (fun r65 M64 => ((ts_w r65 = ts_w x60 → ((¬ (ts_w x60 = 0) → wL_law_B721 L xs k28 Q y5 M64) ∧ (ts_w x60 = 0 → ((M64.2.1 175 0 = ts_L x63 → wL_law_B721 L xs k28 Q y5 M64) ∧ (¬ (M64.2.1 175 0 = ts_L x63) → Q 0 M64))))) ∧ (¬ (ts_w r65 = ts_w x60) → Q 0 M64))) M61))) M58)))) M))
def wL_law_B772 (L : Nat) (xs : Nat → Int32) (k28 : Int → ts_M → Prop) (Q : Int → ts_M → Prop)  (y5 : Int) (M : ts_M) : Prop :=
  wL_law_B2953 L xs k28 Q y5 M
def wL_law_B766 (L : Nat) (xs : Nat → Int32) (k28 : Int → ts_M → Prop) (Q : Int → ts_M → Prop)  (y5 : Int) (z0 : Int64) (z1 : Int64) (M : ts_M) : Prop :=
  ((z1 = z0 → wL_law_B772 L xs k28 Q y5 M) ∧ (¬ (z1 = z0) → Q 0 M))
def wL_law_B724 (L : Nat) (xs : Nat → Int32) (k28 : Int → ts_M → Prop) (Q : Int → ts_M → Prop)  (y5 : Int) (M : ts_M) : Prop :=
  (wL_vote  (fun r67 M66 => (∀ x68 : Int, x68 = r67 → (wX12_vote  (fun r70 M69 => (∀ x71 : Int, x71 = r70 → (wX12_thrown  (fun r73 M72 => ((ts_w r73 = ts_w x68 → ((¬ (ts_w x68 = 0) → wL_law_B772 L xs k28 Q y5 M72) ∧ (ts_w x68 = 0 → ((ts_w x71 = 0 → wL_law_B766 L xs k28 Q y5 0 (M72.2.1 175 0) M72) ∧ (¬ (ts_w x71 = 0) → wL_law_B766 L xs k28 Q y5 1 (M72.2.1 175 0) M72))))) ∧ (¬ (ts_w r73 = ts_w x68) → Q 0 M72))) M69))) M66))) M)
def wL_law_B852 (L : Nat) (xs : Nat → Int32) (k28 : Int → ts_M → Prop) (Q : Int → ts_M → Prop)  (y5 : Int) (M : ts_M) : Prop :=
  wL_law_B2953 L xs k28 Q y5 M
def wL_law_B775 (L : Nat) (xs : Nat → Int32) (k28 : Int → ts_M → Prop) (Q : Int → ts_M → Prop)  (y5 : Int) (M : ts_M) : Prop :=
  ((0 ≤ ts_w (y5 + 1) ∧ ts_w (y5 + 1) < (L : Int)) ∧ ((0 ≤ ts_w (y5 + 2) ∧ ts_w (y5 + 2) < (L : Int)) ∧ ((0 ≤ ts_w (y5 + 3) ∧ ts_w (y5 + 3) < (L : Int)) ∧ (wL_spill (ts_xs xs (ts_w (y5 + 1))) (ts_xs xs (ts_w (y5 + 2))) (ts_xs xs (ts_w (y5 + 3))) (fun r75 M74 => (∀ x76 : Int, x76 = r75 → ((0 ≤ ts_w (y5 + 1) ∧ ts_w (y5 + 1) < (L : Int)) ∧ ((0 ≤ ts_w (y5 + 2) ∧ ts_w (y5 + 2) < (L : Int)) ∧ ((0 ≤ ts_w (y5 + 3) ∧ ts_w (y5 + 3) < (L : Int)) ∧ (wX12_spill (ts_xs xs (ts_w (y5 + 1))) (ts_xs xs (ts_w (y5 + 2))) (ts_xs xs (ts_w (y5 + 3))) (fun r78 M77 => (∀ x79 : Int, x79 = r78 → (wX12_thrown  (fun r81 M80 => ((ts_w r81 = ts_w x76 → ((¬ (ts_w x76 = 0) → wL_law_B852 L xs k28 Q y5 M80) ∧ (ts_w x76 = 0 → ((M80.2.1 175 0 = ts_L x79 → wL_law_B852 L xs k28 Q y5 M80) ∧ (¬ (M80.2.1 175 0 = ts_L x79) → Q 0 M80))))) ∧ (¬ (ts_w r81 = ts_w x76) → Q 0 M80))) M77))) M74)))))) M))))
def wL_law_B920 (L : Nat) (xs : Nat → Int32) (k28 : Int → ts_M → Prop) (Q : Int → ts_M → Prop)  (y5 : Int) (M : ts_M) : Prop :=
  wL_law_B2953 L xs k28 Q y5 M
def wL_law_B855 (L : Nat) (xs : Nat → Int32) (k28 : Int → ts_M → Prop) (Q : Int → ts_M → Prop)  (y5 : Int) (M : ts_M) : Prop :=
  ((0 ≤ ts_w (y5 + 1) ∧ ts_w (y5 + 1) < (L : Int)) ∧ ((0 ≤ ts_w (y5 + 2) ∧ ts_w (y5 + 2) < (L : Int)) ∧ (wL_mop (ts_xs xs (ts_w (y5 + 1))) (ts_xs xs (ts_w (y5 + 2))) (fun r83 M82 => (∀ x84 : Int, x84 = r83 → ((0 ≤ ts_w (y5 + 1) ∧ ts_w (y5 + 1) < (L : Int)) ∧ ((0 ≤ ts_w (y5 + 2) ∧ ts_w (y5 + 2) < (L : Int)) ∧ (wX12_mop (ts_xs xs (ts_w (y5 + 1))) (ts_xs xs (ts_w (y5 + 2))) (fun r86 M85 => (∀ x87 : Int, x87 = r86 → (wX12_thrown  (fun r89 M88 => ((ts_w r89 = ts_w x84 → ((¬ (ts_w x84 = 0) → wL_law_B920 L xs k28 Q y5 M88) ∧ (ts_w x84 = 0 → ((M88.2.1 175 0 = ts_L x87 → wL_law_B920 L xs k28 Q y5 M88) ∧ (¬ (M88.2.1 175 0 = ts_L x87) → Q 0 M88))))) ∧ (¬ (ts_w r89 = ts_w x84) → Q 0 M88))) M85))) M82))))) M)))
def wL_law_B988 (L : Nat) (xs : Nat → Int32) (k28 : Int → ts_M → Prop) (Q : Int → ts_M → Prop)  (y5 : Int) (M : ts_M) : Prop :=
  wL_law_B2953 L xs k28 Q y5 M
def wL_law_B923 (L : Nat) (xs : Nat → Int32) (k28 : Int → ts_M → Prop) (Q : Int → ts_M → Prop)  (y5 : Int) (M : ts_M) : Prop :=
  ((0 ≤ ts_w (y5 + 1) ∧ ts_w (y5 + 1) < (L : Int)) ∧ ((0 ≤ ts_w (y5 + 2) ∧ ts_w (y5 + 2) < (L : Int)) ∧ (wL_giveSugar (ts_xs xs (ts_w (y5 + 1))) (ts_xs xs (ts_w (y5 + 2))) (fun r91 M90 => (∀ x92 : Int, x92 = r91 → ((0 ≤ ts_w (y5 + 1) ∧ ts_w (y5 + 1) < (L : Int)) ∧ ((0 ≤ ts_w (y5 + 2) ∧ ts_w (y5 + 2) < (L : Int)) ∧ (wX12_giveSugar (ts_xs xs (ts_w (y5 + 1))) (ts_xs xs (ts_w (y5 + 2))) (fun r94 M93 => (∀ x95 : Int, x95 = r94 → (wX12_thrown  (fun r97 M96 => ((ts_w r97 = ts_w x92 → ((¬ (ts_w x92 = 0) → wL_law_B988 L xs k28 Q y5 M96) ∧ (ts_w x92 = 0 → ((M96.2.1 175 0 = ts_L x95 → wL_law_B988 L xs k28 Q y5 M96) ∧ (¬ (M96.2.1 175 0 = ts_L x95) → Q 0 M96))))) ∧ (¬ (ts_w r97 = ts_w x92) → Q 0 M96))) M93))) M90))))) M)))
def wL_law_B991 (L : Nat) (xs : Nat → Int32) (k28 : Int → ts_M → Prop) (Q : Int → ts_M → Prop)  (y5 : Int) (M : ts_M) : Prop :=
  (wX11_spoonCount  (fun r99 M98 => (wX12_spoonCount  (fun r101 M100 => ((ts_w r99 = ts_w r101 → wL_law_B2953 L xs k28 Q y5 M100) ∧ (¬ (ts_w r99 = ts_w r101) → Q 0 M100))) M98)) M)
def wL_law_B1057 (L : Nat) (xs : Nat → Int32) (k28 : Int → ts_M → Prop) (Q : Int → ts_M → Prop)  (y5 : Int) (M : ts_M) : Prop :=
  wL_law_B2953 L xs k28 Q y5 M
def wL_law_B1004 (L : Nat) (xs : Nat → Int32) (k28 : Int → ts_M → Prop) (Q : Int → ts_M → Prop)  (y5 : Int) (M : ts_M) : Prop :=
  ((0 ≤ ts_w (y5 + 1) ∧ ts_w (y5 + 1) < (L : Int)) ∧ (wL_weight (ts_xs xs (ts_w (y5 + 1))) (fun r103 M102 => (∀ x104 : Int, x104 = r103 → ((0 ≤ ts_w (y5 + 1) ∧ ts_w (y5 + 1) < (L : Int)) ∧ (wX12_weight (ts_xs xs (ts_w (y5 + 1))) (fun r106 M105 => (∀ x107 : Int, x107 = r106 → (wX12_thrown  (fun r109 M108 => ((ts_w r109 = ts_w x104 → ((¬ (ts_w x104 = 0) → wL_law_B1057 L xs k28 Q y5 M108) ∧ (ts_w x104 = 0 → ((M108.2.1 175 0 = ts_L x107 → wL_law_B1057 L xs k28 Q y5 M108) ∧ (¬ (M108.2.1 175 0 = ts_L x107) → Q 0 M108))))) ∧ (¬ (ts_w r109 = ts_w x104) → Q 0 M108))) M105))) M102)))) M))
def wL_law_B1113 (L : Nat) (xs : Nat → Int32) (k28 : Int → ts_M → Prop) (Q : Int → ts_M → Prop)  (y5 : Int) (M : ts_M) : Prop :=
  wL_law_B2953 L xs k28 Q y5 M
def wL_law_B1060 (L : Nat) (xs : Nat → Int32) (k28 : Int → ts_M → Prop) (Q : Int → ts_M → Prop)  (y5 : Int) (M : ts_M) : Prop :=
  ((0 ≤ ts_w (y5 + 1) ∧ ts_w (y5 + 1) < (L : Int)) ∧ (wL_stance (ts_xs xs (ts_w (y5 + 1))) (fun r111 M110 => (∀ x112 : Int, x112 = r111 → ((0 ≤ ts_w (y5 + 1) ∧ ts_w (y5 + 1) < (L : Int)) ∧ (wX12_stance (ts_xs xs (ts_w (y5 + 1))) (fun r114 M113 => (∀ x115 : Int, x115 = r114 → (wX12_thrown  (fun r117 M116 => ((ts_w r117 = ts_w x112 → ((¬ (ts_w x112 = 0) → wL_law_B1113 L xs k28 Q y5 M116) ∧ (ts_w x112 = 0 → ((M116.2.1 175 0 = ts_L x115 → wL_law_B1113 L xs k28 Q y5 M116) ∧ (¬ (M116.2.1 175 0 = ts_L x115) → Q 0 M116))))) ∧ (¬ (ts_w r117 = ts_w x112) → Q 0 M116))) M113))) M110)))) M))
def wL_law_B1169 (L : Nat) (xs : Nat → Int32) (k28 : Int → ts_M → Prop) (Q : Int → ts_M → Prop)  (y5 : Int) (M : ts_M) : Prop :=
  wL_law_B2953 L xs k28 Q y5 M
def wL_law_B1116 (L : Nat) (xs : Nat → Int32) (k28 : Int → ts_M → Prop) (Q : Int → ts_M → Prop)  (y5 : Int) (M : ts_M) : Prop :=
  ((0 ≤ ts_w (y5 + 1) ∧ ts_w (y5 + 1) < (L : Int)) ∧ (wL_sugar (ts_xs xs (ts_w (y5 + 1))) (fun r119 M118 => (∀ x120 : Int, x120 = r119 → ((0 ≤ ts_w (y5 + 1) ∧ ts_w (y5 + 1) < (L : Int)) ∧ (wX12_sugar (ts_xs xs (ts_w (y5 + 1))) (fun r122 M121 => (∀ x123 : Int, x123 = r122 → (wX12_thrown  (fun r125 M124 => ((ts_w r125 = ts_w x120 → ((¬ (ts_w x120 = 0) → wL_law_B1169 L xs k28 Q y5 M124) ∧ (ts_w x120 = 0 → ((M124.2.1 175 0 = ts_L x123 → wL_law_B1169 L xs k28 Q y5 M124) ∧ (¬ (M124.2.1 175 0 = ts_L x123) → Q 0 M124))))) ∧ (¬ (ts_w r125 = ts_w x120) → Q 0 M124))) M121))) M118)))) M))
def wL_law_B1225 (L : Nat) (xs : Nat → Int32) (k28 : Int → ts_M → Prop) (Q : Int → ts_M → Prop)  (y5 : Int) (M : ts_M) : Prop :=
  wL_law_B2953 L xs k28 Q y5 M
def wL_law_B1172 (L : Nat) (xs : Nat → Int32) (k28 : Int → ts_M → Prop) (Q : Int → ts_M → Prop)  (y5 : Int) (M : ts_M) : Prop :=
  ((0 ≤ ts_w (y5 + 1) ∧ ts_w (y5 + 1) < (L : Int)) ∧ (wL_speeches (ts_xs xs (ts_w (y5 + 1))) (fun r127 M126 => (∀ x128 : Int, x128 = r127 → ((0 ≤ ts_w (y5 + 1) ∧ ts_w (y5 + 1) < (L : Int)) ∧ (wX12_speeches (ts_xs xs (ts_w (y5 + 1))) (fun r130 M129 => (∀ x131 : Int, x131 = r130 → (wX12_thrown  (fun r133 M132 => ((ts_w r133 = ts_w x128 → ((¬ (ts_w x128 = 0) → wL_law_B1225 L xs k28 Q y5 M132) ∧ (ts_w x128 = 0 → ((M132.2.1 175 0 = ts_L x131 → wL_law_B1225 L xs k28 Q y5 M132) ∧ (¬ (M132.2.1 175 0 = ts_L x131) → Q 0 M132))))) ∧ (¬ (ts_w r133 = ts_w x128) → Q 0 M132))) M129))) M126)))) M))
def wL_law_B1228 (L : Nat) (xs : Nat → Int32) (k28 : Int → ts_M → Prop) (Q : Int → ts_M → Prop)  (y5 : Int) (M : ts_M) : Prop :=
  (wX11_proposalCount  (fun r135 M134 => (wX12_proposalCount  (fun r137 M136 => ((ts_w r135 = ts_w r137 → wL_law_B2953 L xs k28 Q y5 M136) ∧ (¬ (ts_w r135 = ts_w r137) → Q 0 M136))) M134)) M)
def wL_law_B1294 (L : Nat) (xs : Nat → Int32) (k28 : Int → ts_M → Prop) (Q : Int → ts_M → Prop)  (y5 : Int) (M : ts_M) : Prop :=
  wL_law_B2953 L xs k28 Q y5 M
def wL_law_B1241 (L : Nat) (xs : Nat → Int32) (k28 : Int → ts_M → Prop) (Q : Int → ts_M → Prop)  (y5 : Int) (M : ts_M) : Prop :=
  ((0 ≤ ts_w (y5 + 1) ∧ ts_w (y5 + 1) < (L : Int)) ∧ (wL_proposalAt (ts_xs xs (ts_w (y5 + 1))) (fun r139 M138 => (∀ x140 : Int, x140 = r139 → ((0 ≤ ts_w (y5 + 1) ∧ ts_w (y5 + 1) < (L : Int)) ∧ (wX12_proposalAt (ts_xs xs (ts_w (y5 + 1))) (fun r142 M141 => (∀ x143 : Int, x143 = r142 → (wX12_thrown  (fun r145 M144 => ((ts_w r145 = ts_w x140 → ((¬ (ts_w x140 = 0) → wL_law_B1294 L xs k28 Q y5 M144) ∧ (ts_w x140 = 0 → ((M144.2.1 175 0 = ts_L x143 → wL_law_B1294 L xs k28 Q y5 M144) ∧ (¬ (M144.2.1 175 0 = ts_L x143) → Q 0 M144))))) ∧ (¬ (ts_w r145 = ts_w x140) → Q 0 M144))) M141))) M138)))) M))
def wL_law_B1350 (L : Nat) (xs : Nat → Int32) (k28 : Int → ts_M → Prop) (Q : Int → ts_M → Prop)  (y5 : Int) (M : ts_M) : Prop :=
  wL_law_B2953 L xs k28 Q y5 M
def wL_law_B1297 (L : Nat) (xs : Nat → Int32) (k28 : Int → ts_M → Prop) (Q : Int → ts_M → Prop)  (y5 : Int) (M : ts_M) : Prop :=
  ((0 ≤ ts_w (y5 + 1) ∧ ts_w (y5 + 1) < (L : Int)) ∧ (wL_position (ts_xs xs (ts_w (y5 + 1))) (fun r147 M146 => (∀ x148 : Int, x148 = r147 → ((0 ≤ ts_w (y5 + 1) ∧ ts_w (y5 + 1) < (L : Int)) ∧ (wX12_position (ts_xs xs (ts_w (y5 + 1))) (fun r150 M149 => (∀ x151 : Int, x151 = r150 → (wX12_thrown  (fun r153 M152 => ((ts_w r153 = ts_w x148 → ((¬ (ts_w x148 = 0) → wL_law_B1350 L xs k28 Q y5 M152) ∧ (ts_w x148 = 0 → ((M152.2.1 175 0 = ts_L x151 → wL_law_B1350 L xs k28 Q y5 M152) ∧ (¬ (M152.2.1 175 0 = ts_L x151) → Q 0 M152))))) ∧ (¬ (ts_w r153 = ts_w x148) → Q 0 M152))) M149))) M146)))) M))
def wL_law_B1353 (L : Nat) (xs : Nat → Int32) (k28 : Int → ts_M → Prop) (Q : Int → ts_M → Prop)  (y5 : Int) (M : ts_M) : Prop :=
  (wX11_motionCount  (fun r155 M154 => (wX12_motionCount  (fun r157 M156 => ((ts_w r155 = ts_w r157 → wL_law_B2953 L xs k28 Q y5 M156) ∧ (¬ (ts_w r155 = ts_w r157) → Q 0 M156))) M154)) M)
def wL_law_B1419 (L : Nat) (xs : Nat → Int32) (k28 : Int → ts_M → Prop) (Q : Int → ts_M → Prop)  (y5 : Int) (M : ts_M) : Prop :=
  wL_law_B2953 L xs k28 Q y5 M
def wL_law_B1366 (L : Nat) (xs : Nat → Int32) (k28 : Int → ts_M → Prop) (Q : Int → ts_M → Prop)  (y5 : Int) (M : ts_M) : Prop :=
  ((0 ≤ ts_w (y5 + 1) ∧ ts_w (y5 + 1) < (L : Int)) ∧ (wL_motionKind (ts_xs xs (ts_w (y5 + 1))) (fun r159 M158 => (∀ x160 : Int, x160 = r159 → ((0 ≤ ts_w (y5 + 1) ∧ ts_w (y5 + 1) < (L : Int)) ∧ (wX12_motionKind (ts_xs xs (ts_w (y5 + 1))) (fun r162 M161 => (∀ x163 : Int, x163 = r162 → (wX12_thrown  (fun r165 M164 => ((ts_w r165 = ts_w x160 → ((¬ (ts_w x160 = 0) → wL_law_B1419 L xs k28 Q y5 M164) ∧ (ts_w x160 = 0 → ((M164.2.1 175 0 = ts_L x163 → wL_law_B1419 L xs k28 Q y5 M164) ∧ (¬ (M164.2.1 175 0 = ts_L x163) → Q 0 M164))))) ∧ (¬ (ts_w r165 = ts_w x160) → Q 0 M164))) M161))) M158)))) M))
def wL_law_B1463 (L : Nat) (xs : Nat → Int32) (k28 : Int → ts_M → Prop) (Q : Int → ts_M → Prop)  (y5 : Int) (M : ts_M) : Prop :=
  wL_law_B2953 L xs k28 Q y5 M
def wL_law_B1422 (L : Nat) (xs : Nat → Int32) (k28 : Int → ts_M → Prop) (Q : Int → ts_M → Prop)  (y5 : Int) (M : ts_M) : Prop :=
  (wL_amendment  (fun r167 M166 => (∀ x168 : Int, x168 = r167 → (wX12_amendment  (fun r170 M169 => (∀ x171 : Int, x171 = r170 → (wX12_thrown  (fun r173 M172 => ((ts_w r173 = ts_w x168 → ((¬ (ts_w x168 = 0) → wL_law_B1463 L xs k28 Q y5 M172) ∧ (ts_w x168 = 0 → ((M172.2.1 175 0 = ts_L x171 → wL_law_B1463 L xs k28 Q y5 M172) ∧ (¬ (M172.2.1 175 0 = ts_L x171) → Q 0 M172))))) ∧ (¬ (ts_w r173 = ts_w x168) → Q 0 M172))) M169))) M166))) M)
def wL_law_B1507 (L : Nat) (xs : Nat → Int32) (k28 : Int → ts_M → Prop) (Q : Int → ts_M → Prop)  (y5 : Int) (M : ts_M) : Prop :=
  wL_law_B2953 L xs k28 Q y5 M
def wL_law_B1466 (L : Nat) (xs : Nat → Int32) (k28 : Int → ts_M → Prop) (Q : Int → ts_M → Prop)  (y5 : Int) (M : ts_M) : Prop :=
  (wL_mainProposal  (fun r175 M174 => (∀ x176 : Int, x176 = r175 → (wX12_mainProposal  (fun r178 M177 => (∀ x179 : Int, x179 = r178 → (wX12_thrown  (fun r181 M180 => ((ts_w r181 = ts_w x176 → ((¬ (ts_w x176 = 0) → wL_law_B1507 L xs k28 Q y5 M180) ∧ (ts_w x176 = 0 → ((M180.2.1 175 0 = ts_L x179 → wL_law_B1507 L xs k28 Q y5 M180) ∧ (¬ (M180.2.1 175 0 = ts_L x179) → Q 0 M180))))) ∧ (¬ (ts_w r181 = ts_w x176) → Q 0 M180))) M177))) M174))) M)
def wL_law_B1510 (L : Nat) (xs : Nat → Int32) (k28 : Int → ts_M → Prop) (Q : Int → ts_M → Prop)  (y5 : Int) (M : ts_M) : Prop :=
  (wX11_isClosed  (fun r183 M182 => (wX12_isClosed  (fun r185 M184 => ((ts_w r183 = ts_w r185 → wL_law_B2953 L xs k28 Q y5 M184) ∧ (¬ (ts_w r183 = ts_w r185) → Q 0 M184))) M182)) M)
def wL_law_B1585 (L : Nat) (xs : Nat → Int32) (k28 : Int → ts_M → Prop) (Q : Int → ts_M → Prop)  (y5 : Int) (M : ts_M) : Prop :=
  wL_law_B2953 L xs k28 Q y5 M
def wL_law_B1579 (L : Nat) (xs : Nat → Int32) (k28 : Int → ts_M → Prop) (Q : Int → ts_M → Prop)  (y5 : Int) (z0 : Int64) (z1 : Int64) (M : ts_M) : Prop :=
  ((z1 = z0 → wL_law_B1585 L xs k28 Q y5 M) ∧ (¬ (z1 = z0) → Q 0 M))
def wL_law_B1523 (L : Nat) (xs : Nat → Int32) (k28 : Int → ts_M → Prop) (Q : Int → ts_M → Prop)  (y5 : Int) (M : ts_M) : Prop :=
  ((0 ≤ ts_w (y5 + 1) ∧ ts_w (y5 + 1) < (L : Int)) ∧ (wL_canMove (ts_i2c (ts_xs xs (ts_w (y5 + 1)))) (fun r187 M186 => (∀ x188 : Int, x188 = r187 → ((0 ≤ ts_w (y5 + 1) ∧ ts_w (y5 + 1) < (L : Int)) ∧ (wX12_canMove (ts_i2c (ts_xs xs (ts_w (y5 + 1)))) (fun r190 M189 => (∀ x191 : Int, x191 = r190 → (wX12_thrown  (fun r193 M192 => ((ts_w r193 = ts_w x188 → ((¬ (ts_w x188 = 0) → wL_law_B1585 L xs k28 Q y5 M192) ∧ (ts_w x188 = 0 → ((ts_w x191 = 0 → wL_law_B1579 L xs k28 Q y5 0 (M192.2.1 175 0) M192) ∧ (¬ (ts_w x191 = 0) → wL_law_B1579 L xs k28 Q y5 1 (M192.2.1 175 0) M192))))) ∧ (¬ (ts_w r193 = ts_w x188) → Q 0 M192))) M189))) M186)))) M))
def wL_law_B1629 (L : Nat) (xs : Nat → Int32) (k28 : Int → ts_M → Prop) (Q : Int → ts_M → Prop)  (y5 : Int) (M : ts_M) : Prop :=
  wL_law_B2953 L xs k28 Q y5 M
def wL_law_B1588 (L : Nat) (xs : Nat → Int32) (k28 : Int → ts_M → Prop) (Q : Int → ts_M → Prop)  (y5 : Int) (M : ts_M) : Prop :=
  (wL_yesVotes  (fun r195 M194 => (∀ x196 : Int, x196 = r195 → (wX12_yesVotes  (fun r198 M197 => (∀ x199 : Int, x199 = r198 → (wX12_thrown  (fun r201 M200 => ((ts_w r201 = ts_w x196 → ((¬ (ts_w x196 = 0) → wL_law_B1629 L xs k28 Q y5 M200) ∧ (ts_w x196 = 0 → ((M200.2.1 175 0 = ts_L x199 → wL_law_B1629 L xs k28 Q y5 M200) ∧ (¬ (M200.2.1 175 0 = ts_L x199) → Q 0 M200))))) ∧ (¬ (ts_w r201 = ts_w x196) → Q 0 M200))) M197))) M194))) M)
def wL_law_B1680 (L : Nat) (xs : Nat → Int32) (k28 : Int → ts_M → Prop) (Q : Int → ts_M → Prop)  (y5 : Int) (M : ts_M) : Prop :=
  wL_law_B2953 L xs k28 Q y5 M
def wL_law_B1674 (L : Nat) (xs : Nat → Int32) (k28 : Int → ts_M → Prop) (Q : Int → ts_M → Prop)  (y5 : Int) (z0 : Int64) (z1 : Int64) (M : ts_M) : Prop :=
  ((z1 = z0 → wL_law_B1680 L xs k28 Q y5 M) ∧ (¬ (z1 = z0) → Q 0 M))
def wL_law_B1632 (L : Nat) (xs : Nat → Int32) (k28 : Int → ts_M → Prop) (Q : Int → ts_M → Prop)  (y5 : Int) (M : ts_M) : Prop :=
  (wL_wouldPass  (fun r203 M202 => (∀ x204 : Int, x204 = r203 → (wX12_wouldPass  (fun r206 M205 => (∀ x207 : Int, x207 = r206 → (wX12_thrown  (fun r209 M208 => ((ts_w r209 = ts_w x204 → ((¬ (ts_w x204 = 0) → wL_law_B1680 L xs k28 Q y5 M208) ∧ (ts_w x204 = 0 → ((ts_w x207 = 0 → wL_law_B1674 L xs k28 Q y5 0 (M208.2.1 175 0) M208) ∧ (¬ (ts_w x207 = 0) → wL_law_B1674 L xs k28 Q y5 1 (M208.2.1 175 0) M208))))) ∧ (¬ (ts_w r209 = ts_w x204) → Q 0 M208))) M205))) M202))) M)
def wL_law_B1743 (L : Nat) (xs : Nat → Int32) (k28 : Int → ts_M → Prop) (Q : Int → ts_M → Prop)  (y5 : Int) (M : ts_M) : Prop :=
  wL_law_B2953 L xs k28 Q y5 M
def wL_law_B1737 (L : Nat) (xs : Nat → Int32) (k28 : Int → ts_M → Prop) (Q : Int → ts_M → Prop)  (y5 : Int) (z0 : Int64) (z1 : Int64) (M : ts_M) : Prop :=
  ((z1 = z0 → wL_law_B1743 L xs k28 Q y5 M) ∧ (¬ (z1 = z0) → Q 0 M))
def wL_law_B1683 (L : Nat) (xs : Nat → Int32) (k28 : Int → ts_M → Prop) (Q : Int → ts_M → Prop)  (y5 : Int) (M : ts_M) : Prop :=
  ((0 ≤ ts_w (y5 + 1) ∧ ts_w (y5 + 1) < (L : Int)) ∧ (wL_votesYes (ts_xs xs (ts_w (y5 + 1))) (fun r211 M210 => (∀ x212 : Int, x212 = r211 → ((0 ≤ ts_w (y5 + 1) ∧ ts_w (y5 + 1) < (L : Int)) ∧ (wX12_votesYes (ts_xs xs (ts_w (y5 + 1))) (fun r214 M213 => (∀ x215 : Int, x215 = r214 → (wX12_thrown  (fun r217 M216 => ((ts_w r217 = ts_w x212 → ((¬ (ts_w x212 = 0) → wL_law_B1743 L xs k28 Q y5 M216) ∧ (ts_w x212 = 0 → ((ts_w x215 = 0 → wL_law_B1737 L xs k28 Q y5 0 (M216.2.1 175 0) M216) ∧ (¬ (ts_w x215 = 0) → wL_law_B1737 L xs k28 Q y5 1 (M216.2.1 175 0) M216))))) ∧ (¬ (ts_w r217 = ts_w x212) → Q 0 M216))) M213))) M210)))) M))
def wL_law_B1811 (L : Nat) (xs : Nat → Int32) (k28 : Int → ts_M → Prop) (Q : Int → ts_M → Prop)  (y5 : Int) (M : ts_M) : Prop :=
  wL_law_B2953 L xs k28 Q y5 M
def wL_law_B1746 (L : Nat) (xs : Nat → Int32) (k28 : Int → ts_M → Prop) (Q : Int → ts_M → Prop)  (y5 : Int) (M : ts_M) : Prop :=
  ((0 ≤ ts_w (y5 + 1) ∧ ts_w (y5 + 1) < (L : Int)) ∧ ((0 ≤ ts_w (y5 + 2) ∧ ts_w (y5 + 2) < (L : Int)) ∧ (wL_support (ts_xs xs (ts_w (y5 + 1))) (ts_xs xs (ts_w (y5 + 2))) (fun r219 M218 => (∀ x220 : Int, x220 = r219 → ((0 ≤ ts_w (y5 + 1) ∧ ts_w (y5 + 1) < (L : Int)) ∧ ((0 ≤ ts_w (y5 + 2) ∧ ts_w (y5 + 2) < (L : Int)) ∧ (wX12_support (ts_xs xs (ts_w (y5 + 1))) (ts_xs xs (ts_w (y5 + 2))) (fun r222 M221 => (∀ x223 : Int, x223 = r222 → (wX12_thrown  (fun r225 M224 => ((ts_w r225 = ts_w x220 → ((¬ (ts_w x220 = 0) → wL_law_B1811 L xs k28 Q y5 M224) ∧ (ts_w x220 = 0 → ((M224.2.1 175 0 = ts_L x223 → wL_law_B1811 L xs k28 Q y5 M224) ∧ (¬ (M224.2.1 175 0 = ts_L x223) → Q 0 M224))))) ∧ (¬ (ts_w r225 = ts_w x220) → Q 0 M224))) M221))) M218))))) M)))
def wL_law_B1814 (L : Nat) (xs : Nat → Int32) (k28 : Int → ts_M → Prop) (Q : Int → ts_M → Prop)  (y5 : Int) (M : ts_M) : Prop :=
  (wX11_fewestDisagreements  (fun r227 M226 => (wX12_fewestDisagreements  (fun r229 M228 => ((ts_w r227 = ts_w r229 → wL_law_B2953 L xs k28 Q y5 M228) ∧ (¬ (ts_w r227 = ts_w r229) → Q 0 M228))) M226)) M)
def wL_law_B1827 (L : Nat) (xs : Nat → Int32) (k28 : Int → ts_M → Prop) (Q : Int → ts_M → Prop)  (y5 : Int) (M : ts_M) : Prop :=
  (wX11_fewestDisagreementsByOrders  (fun r231 M230 => (wX12_fewestDisagreementsByOrders  (fun r233 M232 => ((ts_w r231 = ts_w r233 → wL_law_B2953 L xs k28 Q y5 M232) ∧ (¬ (ts_w r231 = ts_w r233) → Q 0 M232))) M230)) M)
def wL_law_B1893 (L : Nat) (xs : Nat → Int32) (k28 : Int → ts_M → Prop) (Q : Int → ts_M → Prop)  (y5 : Int) (M : ts_M) : Prop :=
  wL_law_B2953 L xs k28 Q y5 M
def wL_law_B1840 (L : Nat) (xs : Nat → Int32) (k28 : Int → ts_M → Prop) (Q : Int → ts_M → Prop)  (y5 : Int) (M : ts_M) : Prop :=
  ((0 ≤ ts_w (y5 + 1) ∧ ts_w (y5 + 1) < (L : Int)) ∧ (wL_bestOrder (ts_xs xs (ts_w (y5 + 1))) (fun r235 M234 => (∀ x236 : Int, x236 = r235 → ((0 ≤ ts_w (y5 + 1) ∧ ts_w (y5 + 1) < (L : Int)) ∧ (wX12_bestOrder (ts_xs xs (ts_w (y5 + 1))) (fun r238 M237 => (∀ x239 : Int, x239 = r238 → (wX12_thrown  (fun r241 M240 => ((ts_w r241 = ts_w x236 → ((¬ (ts_w x236 = 0) → wL_law_B1893 L xs k28 Q y5 M240) ∧ (ts_w x236 = 0 → ((M240.2.1 175 0 = ts_L x239 → wL_law_B1893 L xs k28 Q y5 M240) ∧ (¬ (M240.2.1 175 0 = ts_L x239) → Q 0 M240))))) ∧ (¬ (ts_w r241 = ts_w x236) → Q 0 M240))) M237))) M234)))) M))
def wL_law_B1956 (L : Nat) (xs : Nat → Int32) (k28 : Int → ts_M → Prop) (Q : Int → ts_M → Prop)  (y5 : Int) (M : ts_M) : Prop :=
  wL_law_B2953 L xs k28 Q y5 M
def wL_law_B1950 (L : Nat) (xs : Nat → Int32) (k28 : Int → ts_M → Prop) (Q : Int → ts_M → Prop)  (y5 : Int) (z0 : Int64) (z1 : Int64) (M : ts_M) : Prop :=
  ((z1 = z0 → wL_law_B1956 L xs k28 Q y5 M) ∧ (¬ (z1 = z0) → Q 0 M))
def wL_law_B1896 (L : Nat) (xs : Nat → Int32) (k28 : Int → ts_M → Prop) (Q : Int → ts_M → Prop)  (y5 : Int) (M : ts_M) : Prop :=
  ((0 ≤ ts_w (y5 + 1) ∧ ts_w (y5 + 1) < (L : Int)) ∧ (wL_isInTop (ts_xs xs (ts_w (y5 + 1))) (fun r243 M242 => (∀ x244 : Int, x244 = r243 → ((0 ≤ ts_w (y5 + 1) ∧ ts_w (y5 + 1) < (L : Int)) ∧ (wX12_isInTop (ts_xs xs (ts_w (y5 + 1))) (fun r246 M245 => (∀ x247 : Int, x247 = r246 → (wX12_thrown  (fun r249 M248 => ((ts_w r249 = ts_w x244 → ((¬ (ts_w x244 = 0) → wL_law_B1956 L xs k28 Q y5 M248) ∧ (ts_w x244 = 0 → ((ts_w x247 = 0 → wL_law_B1950 L xs k28 Q y5 0 (M248.2.1 175 0) M248) ∧ (¬ (ts_w x247 = 0) → wL_law_B1950 L xs k28 Q y5 1 (M248.2.1 175 0) M248))))) ∧ (¬ (ts_w r249 = ts_w x244) → Q 0 M248))) M245))) M242)))) M))
def wL_law_B2019 (L : Nat) (xs : Nat → Int32) (k28 : Int → ts_M → Prop) (Q : Int → ts_M → Prop)  (y5 : Int) (M : ts_M) : Prop :=
  wL_law_B2953 L xs k28 Q y5 M
def wL_law_B2013 (L : Nat) (xs : Nat → Int32) (k28 : Int → ts_M → Prop) (Q : Int → ts_M → Prop)  (y5 : Int) (z0 : Int64) (z1 : Int64) (M : ts_M) : Prop :=
  ((z1 = z0 → wL_law_B2019 L xs k28 Q y5 M) ∧ (¬ (z1 = z0) → Q 0 M))
def wL_law_B1959 (L : Nat) (xs : Nat → Int32) (k28 : Int → ts_M → Prop) (Q : Int → ts_M → Prop)  (y5 : Int) (M : ts_M) : Prop :=
  ((0 ≤ ts_w (y5 + 1) ∧ ts_w (y5 + 1) < (L : Int)) ∧ (wL_isInTopBySets (ts_xs xs (ts_w (y5 + 1))) (fun r251 M250 => (∀ x252 : Int, x252 = r251 → ((0 ≤ ts_w (y5 + 1) ∧ ts_w (y5 + 1) < (L : Int)) ∧ (wX12_isInTopBySets (ts_xs xs (ts_w (y5 + 1))) (fun r254 M253 => (∀ x255 : Int, x255 = r254 → (wX12_thrown  (fun r257 M256 => ((ts_w r257 = ts_w x252 → ((¬ (ts_w x252 = 0) → wL_law_B2019 L xs k28 Q y5 M256) ∧ (ts_w x252 = 0 → ((ts_w x255 = 0 → wL_law_B2013 L xs k28 Q y5 0 (M256.2.1 175 0) M256) ∧ (¬ (ts_w x255 = 0) → wL_law_B2013 L xs k28 Q y5 1 (M256.2.1 175 0) M256))))) ∧ (¬ (ts_w r257 = ts_w x252) → Q 0 M256))) M253))) M250)))) M))
def wL_law_B2094 (L : Nat) (xs : Nat → Int32) (k28 : Int → ts_M → Prop) (Q : Int → ts_M → Prop)  (y5 : Int) (M : ts_M) : Prop :=
  wL_law_B2953 L xs k28 Q y5 M
def wL_law_B2088 (L : Nat) (xs : Nat → Int32) (k28 : Int → ts_M → Prop) (Q : Int → ts_M → Prop)  (y5 : Int) (z0 : Int64) (z1 : Int64) (M : ts_M) : Prop :=
  ((z1 = z0 → wL_law_B2094 L xs k28 Q y5 M) ∧ (¬ (z1 = z0) → Q 0 M))
def wL_law_B2022 (L : Nat) (xs : Nat → Int32) (k28 : Int → ts_M → Prop) (Q : Int → ts_M → Prop)  (y5 : Int) (M : ts_M) : Prop :=
  ((0 ≤ ts_w (y5 + 1) ∧ ts_w (y5 + 1) < (L : Int)) ∧ ((0 ≤ ts_w (y5 + 2) ∧ ts_w (y5 + 2) < (L : Int)) ∧ (wL_isWet (ts_xs xs (ts_w (y5 + 1))) (ts_xs xs (ts_w (y5 + 2))) (fun r259 M258 => (∀ x260 : Int, x260 = r259 → ((0 ≤ ts_w (y5 + 1) ∧ ts_w (y5 + 1) < (L : Int)) ∧ ((0 ≤ ts_w (y5 + 2) ∧ ts_w (y5 + 2) < (L : Int)) ∧ (wX12_isWet (ts_xs xs (ts_w (y5 + 1))) (ts_xs xs (ts_w (y5 + 2))) (fun r262 M261 => (∀ x263 : Int, x263 = r262 → (wX12_thrown  (fun r265 M264 => ((ts_w r265 = ts_w x260 → ((¬ (ts_w x260 = 0) → wL_law_B2094 L xs k28 Q y5 M264) ∧ (ts_w x260 = 0 → ((ts_w x263 = 0 → wL_law_B2088 L xs k28 Q y5 0 (M264.2.1 175 0) M264) ∧ (¬ (ts_w x263 = 0) → wL_law_B2088 L xs k28 Q y5 1 (M264.2.1 175 0) M264))))) ∧ (¬ (ts_w r265 = ts_w x260) → Q 0 M264))) M261))) M258))))) M)))
def wL_law_B2097 (L : Nat) (xs : Nat → Int32) (k28 : Int → ts_M → Prop) (Q : Int → ts_M → Prop)  (y5 : Int) (M : ts_M) : Prop :=
  (wX11_wetCells  (fun r267 M266 => (wX12_wetCells  (fun r269 M268 => ((ts_w r267 = ts_w r269 → wL_law_B2953 L xs k28 Q y5 M268) ∧ (¬ (ts_w r267 = ts_w r269) → Q 0 M268))) M266)) M)
def wL_law_B2175 (L : Nat) (xs : Nat → Int32) (k28 : Int → ts_M → Prop) (Q : Int → ts_M → Prop)  (y5 : Int) (M : ts_M) : Prop :=
  wL_law_B2953 L xs k28 Q y5 M
def wL_law_B2110 (L : Nat) (xs : Nat → Int32) (k28 : Int → ts_M → Prop) (Q : Int → ts_M → Prop)  (y5 : Int) (M : ts_M) : Prop :=
  ((0 ≤ ts_w (y5 + 1) ∧ ts_w (y5 + 1) < (L : Int)) ∧ ((0 ≤ ts_w (y5 + 2) ∧ ts_w (y5 + 2) < (L : Int)) ∧ (wL_puddle (ts_xs xs (ts_w (y5 + 1))) (ts_xs xs (ts_w (y5 + 2))) (fun r271 M270 => (∀ x272 : Int, x272 = r271 → ((0 ≤ ts_w (y5 + 1) ∧ ts_w (y5 + 1) < (L : Int)) ∧ ((0 ≤ ts_w (y5 + 2) ∧ ts_w (y5 + 2) < (L : Int)) ∧ (wX12_puddle (ts_xs xs (ts_w (y5 + 1))) (ts_xs xs (ts_w (y5 + 2))) (fun r274 M273 => (∀ x275 : Int, x275 = r274 → (wX12_thrown  (fun r277 M276 => ((ts_w r277 = ts_w x272 → ((¬ (ts_w x272 = 0) → wL_law_B2175 L xs k28 Q y5 M276) ∧ (ts_w x272 = 0 → ((M276.2.1 175 0 = ts_L x275 → wL_law_B2175 L xs k28 Q y5 M276) ∧ (¬ (M276.2.1 175 0 = ts_L x275) → Q 0 M276))))) ∧ (¬ (ts_w r277 = ts_w x272) → Q 0 M276))) M273))) M270))))) M)))
def wL_law_B2243 (L : Nat) (xs : Nat → Int32) (k28 : Int → ts_M → Prop) (Q : Int → ts_M → Prop)  (y5 : Int) (M : ts_M) : Prop :=
  wL_law_B2953 L xs k28 Q y5 M
def wL_law_B2178 (L : Nat) (xs : Nat → Int32) (k28 : Int → ts_M → Prop) (Q : Int → ts_M → Prop)  (y5 : Int) (M : ts_M) : Prop :=
  ((0 ≤ ts_w (y5 + 1) ∧ ts_w (y5 + 1) < (L : Int)) ∧ ((0 ≤ ts_w (y5 + 2) ∧ ts_w (y5 + 2) < (L : Int)) ∧ (wL_puddleByGroups (ts_xs xs (ts_w (y5 + 1))) (ts_xs xs (ts_w (y5 + 2))) (fun r279 M278 => (∀ x280 : Int, x280 = r279 → ((0 ≤ ts_w (y5 + 1) ∧ ts_w (y5 + 1) < (L : Int)) ∧ ((0 ≤ ts_w (y5 + 2) ∧ ts_w (y5 + 2) < (L : Int)) ∧ (wX12_puddleByGroups (ts_xs xs (ts_w (y5 + 1))) (ts_xs xs (ts_w (y5 + 2))) (fun r282 M281 => (∀ x283 : Int, x283 = r282 → (wX12_thrown  (fun r285 M284 => ((ts_w r285 = ts_w x280 → ((¬ (ts_w x280 = 0) → wL_law_B2243 L xs k28 Q y5 M284) ∧ (ts_w x280 = 0 → ((M284.2.1 175 0 = ts_L x283 → wL_law_B2243 L xs k28 Q y5 M284) ∧ (¬ (M284.2.1 175 0 = ts_L x283) → Q 0 M284))))) ∧ (¬ (ts_w r285 = ts_w x280) → Q 0 M284))) M281))) M278))))) M)))
def wL_law_B2246 (L : Nat) (xs : Nat → Int32) (k28 : Int → ts_M → Prop) (Q : Int → ts_M → Prop)  (y5 : Int) (M : ts_M) : Prop :=
  (wX11_largestPuddle  (fun r287 M286 => (wX12_largestPuddle  (fun r289 M288 => ((ts_w r287 = ts_w r289 → wL_law_B2953 L xs k28 Q y5 M288) ∧ (¬ (ts_w r287 = ts_w r289) → Q 0 M288))) M286)) M)
def wL_law_B2259 (L : Nat) (xs : Nat → Int32) (k28 : Int → ts_M → Prop) (Q : Int → ts_M → Prop)  (y5 : Int) (M : ts_M) : Prop :=
  (wX11_puddleCount  (fun r291 M290 => (wX12_puddleCount  (fun r293 M292 => ((ts_w r291 = ts_w r293 → wL_law_B2953 L xs k28 Q y5 M292) ∧ (¬ (ts_w r291 = ts_w r293) → Q 0 M292))) M290)) M)
def wL_law_B2325 (L : Nat) (xs : Nat → Int32) (k28 : Int → ts_M → Prop) (Q : Int → ts_M → Prop)  (y5 : Int) (M : ts_M) : Prop :=
  wL_law_B2953 L xs k28 Q y5 M
def wL_law_B2272 (L : Nat) (xs : Nat → Int32) (k28 : Int → ts_M → Prop) (Q : Int → ts_M → Prop)  (y5 : Int) (M : ts_M) : Prop :=
  ((0 ≤ ts_w (y5 + 1) ∧ ts_w (y5 + 1) < (L : Int)) ∧ (wL_spoonBySugar (ts_xs xs (ts_w (y5 + 1))) (fun r295 M294 => (∀ x296 : Int, x296 = r295 → ((0 ≤ ts_w (y5 + 1) ∧ ts_w (y5 + 1) < (L : Int)) ∧ (wX12_spoonBySugar (ts_xs xs (ts_w (y5 + 1))) (fun r298 M297 => (∀ x299 : Int, x299 = r298 → (wX12_thrown  (fun r301 M300 => ((ts_w r301 = ts_w x296 → ((¬ (ts_w x296 = 0) → wL_law_B2325 L xs k28 Q y5 M300) ∧ (ts_w x296 = 0 → ((M300.2.1 175 0 = ts_L x299 → wL_law_B2325 L xs k28 Q y5 M300) ∧ (¬ (M300.2.1 175 0 = ts_L x299) → Q 0 M300))))) ∧ (¬ (ts_w r301 = ts_w x296) → Q 0 M300))) M297))) M294)))) M))
def wL_law_B2328 (L : Nat) (xs : Nat → Int32) (k28 : Int → ts_M → Prop) (Q : Int → ts_M → Prop)  (y5 : Int) (M : ts_M) : Prop :=
  (wX11_minutesCount  (fun r303 M302 => (wX12_minutesCount  (fun r305 M304 => ((ts_w r303 = ts_w r305 → wL_law_B2953 L xs k28 Q y5 M304) ∧ (¬ (ts_w r303 = ts_w r305) → Q 0 M304))) M302)) M)
def wL_law_B2394 (L : Nat) (xs : Nat → Int32) (k28 : Int → ts_M → Prop) (Q : Int → ts_M → Prop)  (y5 : Int) (M : ts_M) : Prop :=
  wL_law_B2953 L xs k28 Q y5 M
def wL_law_B2341 (L : Nat) (xs : Nat → Int32) (k28 : Int → ts_M → Prop) (Q : Int → ts_M → Prop)  (y5 : Int) (M : ts_M) : Prop :=
  ((0 ≤ ts_w (y5 + 1) ∧ ts_w (y5 + 1) < (L : Int)) ∧ (wL_minute (ts_xs xs (ts_w (y5 + 1))) (fun r307 M306 => (∀ x308 : Int, x308 = r307 → ((0 ≤ ts_w (y5 + 1) ∧ ts_w (y5 + 1) < (L : Int)) ∧ (wX12_minute (ts_xs xs (ts_w (y5 + 1))) (fun r310 M309 => (∀ x311 : Int, x311 = r310 → (wX12_thrown  (fun r313 M312 => ((ts_w r313 = ts_w x308 → ((¬ (ts_w x308 = 0) → wL_law_B2394 L xs k28 Q y5 M312) ∧ (ts_w x308 = 0 → ((M312.2.1 175 0 = ts_L x311 → wL_law_B2394 L xs k28 Q y5 M312) ∧ (¬ (M312.2.1 175 0 = ts_L x311) → Q 0 M312))))) ∧ (¬ (ts_w r313 = ts_w x308) → Q 0 M312))) M309))) M306)))) M))
def wL_law_B2397 (L : Nat) (xs : Nat → Int32) (k28 : Int → ts_M → Prop) (Q : Int → ts_M → Prop)  (y5 : Int) (M : ts_M) : Prop :=
  (wX11_sittings  (fun r315 M314 => (wX12_sittings  (fun r317 M316 => ((ts_w r315 = ts_w r317 → wL_law_B2953 L xs k28 Q y5 M316) ∧ (¬ (ts_w r315 = ts_w r317) → Q 0 M316))) M314)) M)
def wL_law_B2410 (L : Nat) (xs : Nat → Int32) (k28 : Int → ts_M → Prop) (Q : Int → ts_M → Prop)  (y5 : Int) (M : ts_M) : Prop :=
  (wX11_sugarTotal  (fun r319 M318 => (wX12_sugarTotal  (fun r321 M320 => ((ts_w r319 = ts_w r321 → wL_law_B2953 L xs k28 Q y5 M320) ∧ (¬ (ts_w r319 = ts_w r321) → Q 0 M320))) M318)) M)
def wL_law_B2423 (L : Nat) (xs : Nat → Int32) (k28 : Int → ts_M → Prop) (Q : Int → ts_M → Prop)  (y5 : Int) (M : ts_M) : Prop :=
  (wX11_sugarByAccounts  (fun r323 M322 => (wX12_sugarByAccounts  (fun r325 M324 => ((ts_w r323 = ts_w r325 → wL_law_B2953 L xs k28 Q y5 M324) ∧ (¬ (ts_w r323 = ts_w r325) → Q 0 M324))) M322)) M)
def wL_law_B2498 (L : Nat) (xs : Nat → Int32) (k28 : Int → ts_M → Prop) (Q : Int → ts_M → Prop)  (y5 : Int) (M : ts_M) : Prop :=
  wL_law_B2953 L xs k28 Q y5 M
def wL_law_B2496 (L : Nat) (xs : Nat → Int32)  (Q : Int → ts_M → Prop)   (M : ts_M) : Prop :=
  Q 0 M
def wL_law_B2436 (L : Nat) (xs : Nat → Int32) (k28 : Int → ts_M → Prop) (Q : Int → ts_M → Prop)  (y5 : Int) (M : ts_M) : Prop :=
  (wL_meanStance  (fun r327 M326 => (∀ x328 : Int, x328 = r327 → (wX12_meanStance  (fun r330 M329 => (∀ x331 : UInt64, x331 = r330 → (wX12_thrown  (fun r333 M332 => ((ts_w r333 = ts_w x328 → ((¬ (ts_w x328 = 0) → wL_law_B2498 L xs k28 Q y5 M332) ∧ (ts_w x328 = 0 → ((ts_w ((Op.cmpValue (FP.dcmp (M332.2.2 176 0) x331) CmpOp.l).toInt) = 0 → wL_law_B2498 L xs k28 Q y5 M332) ∧ (¬ (ts_w ((Op.cmpValue (FP.dcmp (M332.2.2 176 0) x331) CmpOp.l).toInt) = 0) → ((ts_w ((Op.cmpValue (FP.dcmp (M332.2.2 176 0) (M332.2.2 176 0)) CmpOp.l).toInt) = 0 → wL_law_B2496 L xs Q M332) ∧ (¬ (ts_w ((Op.cmpValue (FP.dcmp (M332.2.2 176 0) (M332.2.2 176 0)) CmpOp.l).toInt) = 0) → ((¬ (ts_w ((Op.cmpValue (FP.dcmp x331 x331) CmpOp.l).toInt) = 0) → wL_law_B2498 L xs k28 Q y5 M332) ∧ (ts_w ((Op.cmpValue (FP.dcmp x331 x331) CmpOp.l).toInt) = 0 → wL_law_B2496 L xs Q M332))))))))) ∧ (¬ (ts_w r333 = ts_w x328) → Q 0 M332))) M329))) M326))) M)
def wL_law_B2564 (L : Nat) (xs : Nat → Int32) (k28 : Int → ts_M → Prop) (Q : Int → ts_M → Prop)  (y5 : Int) (M : ts_M) : Prop :=
  wL_law_B2953 L xs k28 Q y5 M
def wL_law_B2562 (L : Nat) (xs : Nat → Int32)  (Q : Int → ts_M → Prop)   (M : ts_M) : Prop :=
  Q 0 M
def wL_law_B2501 (L : Nat) (xs : Nat → Int32) (k28 : Int → ts_M → Prop) (Q : Int → ts_M → Prop)  (y5 : Int) (M : ts_M) : Prop :=
  (wL_adoptedShare  (fun r335 M334 => (∀ x336 : Int, x336 = r335 → (wX12_adoptedShare  (fun r338 M337 => (∀ x339 : UInt32, x339 = r338 → (wX12_thrown  (fun r341 M340 => ((ts_w r341 = ts_w x336 → ((¬ (ts_w x336 = 0) → wL_law_B2564 L xs k28 Q y5 M340) ∧ (ts_w x336 = 0 → (vf_n64 (FP.f2d x339) ∧ ((ts_w ((Op.cmpValue (FP.dcmp (M340.2.2 176 0) (FP.f2d x339)) CmpOp.l).toInt) = 0 → wL_law_B2564 L xs k28 Q y5 M340) ∧ (¬ (ts_w ((Op.cmpValue (FP.dcmp (M340.2.2 176 0) (FP.f2d x339)) CmpOp.l).toInt) = 0) → ((ts_w ((Op.cmpValue (FP.dcmp (M340.2.2 176 0) (M340.2.2 176 0)) CmpOp.l).toInt) = 0 → wL_law_B2562 L xs Q M340) ∧ (¬ (ts_w ((Op.cmpValue (FP.dcmp (M340.2.2 176 0) (M340.2.2 176 0)) CmpOp.l).toInt) = 0) → ((¬ (ts_w ((Op.cmpValue (FP.fcmp x339 x339) CmpOp.l).toInt) = 0) → wL_law_B2564 L xs k28 Q y5 M340) ∧ (ts_w ((Op.cmpValue (FP.fcmp x339 x339) CmpOp.l).toInt) = 0 → wL_law_B2562 L xs Q M340)))))))))) ∧ (¬ (ts_w r341 = ts_w x336) → Q 0 M340))) M337))) M334))) M)
def wL_law_B2567 (L : Nat) (xs : Nat → Int32) (k28 : Int → ts_M → Prop) (Q : Int → ts_M → Prop)  (y5 : Int) (M : ts_M) : Prop :=
  (wX11_isConsistent  (fun r343 M342 => (wX12_isConsistent  (fun r345 M344 => ((ts_w r343 = ts_w r345 → wL_law_B2953 L xs k28 Q y5 M344) ∧ (¬ (ts_w r343 = ts_w r345) → Q 0 M344))) M342)) M)
def wL_law_B2580 (L : Nat) (xs : Nat → Int32) (k28 : Int → ts_M → Prop) (Q : Int → ts_M → Prop)  (y5 : Int) (M : ts_M) : Prop :=
  (wX11_renderTable  (fun r347 M346 => (wX12_renderTable  (fun r349 M348 => ((ts_w r347 = ts_w r349 → wL_law_B2953 L xs k28 Q y5 M348) ∧ (¬ (ts_w r347 = ts_w r349) → Q 0 M348))) M346)) M)
def wL_law_B2593 (L : Nat) (xs : Nat → Int32) (k28 : Int → ts_M → Prop) (Q : Int → ts_M → Prop)  (y5 : Int) (M : ts_M) : Prop :=
  (wX11_renderList  (fun r351 M350 => (wX12_renderList  (fun r353 M352 => ((ts_w r351 = ts_w r353 → wL_law_B2953 L xs k28 Q y5 M352) ∧ (¬ (ts_w r351 = ts_w r353) → Q 0 M352))) M350)) M)
def wL_law_B2659 (L : Nat) (xs : Nat → Int32) (k28 : Int → ts_M → Prop) (Q : Int → ts_M → Prop)  (y5 : Int) (M : ts_M) : Prop :=
  wL_law_B2953 L xs k28 Q y5 M
def wL_law_B2606 (L : Nat) (xs : Nat → Int32) (k28 : Int → ts_M → Prop) (Q : Int → ts_M → Prop)  (y5 : Int) (M : ts_M) : Prop :=
  ((0 ≤ ts_w (y5 + 1) ∧ ts_w (y5 + 1) < (L : Int)) ∧ (wL_outputAt (ts_xs xs (ts_w (y5 + 1))) (fun r355 M354 => (∀ x356 : Int, x356 = r355 → ((0 ≤ ts_w (y5 + 1) ∧ ts_w (y5 + 1) < (L : Int)) ∧ (wX12_outputAt (ts_xs xs (ts_w (y5 + 1))) (fun r358 M357 => (∀ x359 : Int, x359 = r358 → (wX12_thrown  (fun r361 M360 => ((ts_w r361 = ts_w x356 → ((¬ (ts_w x356 = 0) → wL_law_B2659 L xs k28 Q y5 M360) ∧ (ts_w x356 = 0 → ((M360.2.1 175 0 = ts_L x359 → wL_law_B2659 L xs k28 Q y5 M360) ∧ (¬ (M360.2.1 175 0 = ts_L x359) → Q 0 M360))))) ∧ (¬ (ts_w r361 = ts_w x356) → Q 0 M360))) M357))) M354)))) M))
def wL_law_B2717 (L : Nat) (xs : Nat → Int32) (k28 : Int → ts_M → Prop) (Q : Int → ts_M → Prop)  (y5 : Int) (M : ts_M) : Prop :=
  wL_law_B2953 L xs k28 Q y5 M
def wL_law_B2662 (L : Nat) (xs : Nat → Int32) (k28 : Int → ts_M → Prop) (Q : Int → ts_M → Prop)  (y5 : Int) (M : ts_M) : Prop :=
  ((0 ≤ ts_w (y5 + 1) ∧ ts_w (y5 + 1) < (L : Int)) ∧ (wL_type (ts_i2c (ts_xs xs (ts_w (y5 + 1)))) (fun r363 M362 => (∀ x364 : Int, x364 = r363 → ((0 ≤ ts_w (y5 + 1) ∧ ts_w (y5 + 1) < (L : Int)) ∧ (wX12_type (ts_i2c (ts_xs xs (ts_w (y5 + 1)))) (fun r366 M365 => (∀ x367 : Int, x367 = r366 → (wX12_thrown  (fun r369 M368 => ((ts_w r369 = ts_w x364 → ((¬ (ts_w x364 = 0) → wL_law_B2717 L xs k28 Q y5 M368) ∧ (ts_w x364 = 0 → ((M368.2.1 175 0 = ts_L x367 → wL_law_B2717 L xs k28 Q y5 M368) ∧ (¬ (M368.2.1 175 0 = ts_L x367) → Q 0 M368))))) ∧ (¬ (ts_w r369 = ts_w x364) → Q 0 M368))) M365))) M362)))) M))
def wL_law_B2761 (L : Nat) (xs : Nat → Int32) (k28 : Int → ts_M → Prop) (Q : Int → ts_M → Prop)  (y5 : Int) (M : ts_M) : Prop :=
  wL_law_B2953 L xs k28 Q y5 M
def wL_law_B2720 (L : Nat) (xs : Nat → Int32) (k28 : Int → ts_M → Prop) (Q : Int → ts_M → Prop)  (y5 : Int) (M : ts_M) : Prop :=
  (wL_runScript  (fun r371 M370 => (∀ x372 : Int, x372 = r371 → (wX12_runScript  (fun r374 M373 => (∀ x375 : Int, x375 = r374 → (wX12_thrown  (fun r377 M376 => ((ts_w r377 = ts_w x372 → ((¬ (ts_w x372 = 0) → wL_law_B2761 L xs k28 Q y5 M376) ∧ (ts_w x372 = 0 → ((M376.2.1 175 0 = ts_L x375 → wL_law_B2761 L xs k28 Q y5 M376) ∧ (¬ (M376.2.1 175 0 = ts_L x375) → Q 0 M376))))) ∧ (¬ (ts_w r377 = ts_w x372) → Q 0 M376))) M373))) M370))) M)
def wL_law_B2805 (L : Nat) (xs : Nat → Int32) (k28 : Int → ts_M → Prop) (Q : Int → ts_M → Prop)  (y5 : Int) (M : ts_M) : Prop :=
  wL_law_B2953 L xs k28 Q y5 M
def wL_law_B2764 (L : Nat) (xs : Nat → Int32) (k28 : Int → ts_M → Prop) (Q : Int → ts_M → Prop)  (y5 : Int) (M : ts_M) : Prop :=
  (wL_errorPosition  (fun r379 M378 => (∀ x380 : Int, x380 = r379 → (wX12_errorPosition  (fun r382 M381 => (∀ x383 : Int, x383 = r382 → (wX12_thrown  (fun r385 M384 => ((ts_w r385 = ts_w x380 → ((¬ (ts_w x380 = 0) → wL_law_B2805 L xs k28 Q y5 M384) ∧ (ts_w x380 = 0 → ((M384.2.1 175 0 = ts_L x383 → wL_law_B2805 L xs k28 Q y5 M384) ∧ (¬ (M384.2.1 175 0 = ts_L x383) → Q 0 M384))))) ∧ (¬ (ts_w r385 = ts_w x380) → Q 0 M384))) M381))) M378))) M)
def wL_law_B2849 (L : Nat) (xs : Nat → Int32) (k28 : Int → ts_M → Prop) (Q : Int → ts_M → Prop)  (y5 : Int) (M : ts_M) : Prop :=
  wL_law_B2953 L xs k28 Q y5 M
def wL_law_B2808 (L : Nat) (xs : Nat → Int32) (k28 : Int → ts_M → Prop) (Q : Int → ts_M → Prop)  (y5 : Int) (M : ts_M) : Prop :=
  (wL_failedCommand  (fun r387 M386 => (∀ x388 : Int, x388 = r387 → (wX12_failedCommand  (fun r390 M389 => (∀ x391 : Int, x391 = r390 → (wX12_thrown  (fun r393 M392 => ((ts_w r393 = ts_w x388 → ((¬ (ts_w x388 = 0) → wL_law_B2849 L xs k28 Q y5 M392) ∧ (ts_w x388 = 0 → ((M392.2.1 175 0 = ts_L x391 → wL_law_B2849 L xs k28 Q y5 M392) ∧ (¬ (M392.2.1 175 0 = ts_L x391) → Q 0 M392))))) ∧ (¬ (ts_w r393 = ts_w x388) → Q 0 M392))) M389))) M386))) M)
def wL_law_B2893 (L : Nat) (xs : Nat → Int32) (k28 : Int → ts_M → Prop) (Q : Int → ts_M → Prop)  (y5 : Int) (M : ts_M) : Prop :=
  wL_law_B2953 L xs k28 Q y5 M
def wL_law_B2852 (L : Nat) (xs : Nat → Int32) (k28 : Int → ts_M → Prop) (Q : Int → ts_M → Prop)  (y5 : Int) (M : ts_M) : Prop :=
  (wL_undo  (fun r395 M394 => (∀ x396 : Int, x396 = r395 → (wX12_undo  (fun r398 M397 => (∀ x399 : Int, x399 = r398 → (wX12_thrown  (fun r401 M400 => ((ts_w r401 = ts_w x396 → ((¬ (ts_w x396 = 0) → wL_law_B2893 L xs k28 Q y5 M400) ∧ (ts_w x396 = 0 → ((M400.2.1 175 0 = ts_L x399 → wL_law_B2893 L xs k28 Q y5 M400) ∧ (¬ (M400.2.1 175 0 = ts_L x399) → Q 0 M400))))) ∧ (¬ (ts_w r401 = ts_w x396) → Q 0 M400))) M397))) M394))) M)
def wL_law_B2896 (L : Nat) (xs : Nat → Int32) (k28 : Int → ts_M → Prop) (Q : Int → ts_M → Prop)  (y5 : Int) (M : ts_M) : Prop :=
  (wX11_save  (fun r403 M402 => (wX12_save  (fun r405 M404 => ((ts_w r403 = ts_w r405 → wL_law_B2953 L xs k28 Q y5 M404) ∧ (¬ (ts_w r403 = ts_w r405) → Q 0 M404))) M402)) M)
def wL_law_B2950 (L : Nat) (xs : Nat → Int32) (k28 : Int → ts_M → Prop) (Q : Int → ts_M → Prop)  (y5 : Int) (M : ts_M) : Prop :=
  wL_law_B2953 L xs k28 Q y5 M
def wL_law_B2909 (L : Nat) (xs : Nat → Int32) (k28 : Int → ts_M → Prop) (Q : Int → ts_M → Prop)  (y5 : Int) (M : ts_M) : Prop :=
  (wL_restore  (fun r407 M406 => (∀ x408 : Int, x408 = r407 → (wX12_restore  (fun r410 M409 => (∀ x411 : Int, x411 = r410 → (wX12_thrown  (fun r413 M412 => ((ts_w r413 = ts_w x408 → ((¬ (ts_w x408 = 0) → wL_law_B2950 L xs k28 Q y5 M412) ∧ (ts_w x408 = 0 → ((M412.2.1 175 0 = ts_L x411 → wL_law_B2950 L xs k28 Q y5 M412) ∧ (¬ (M412.2.1 175 0 = ts_L x411) → Q 0 M412))))) ∧ (¬ (ts_w r413 = ts_w x408) → Q 0 M412))) M409))) M406))) M)
def wL_law_L28 (L : Nat) (xs : Nat → Int32)  (Q : Int → ts_M → Prop) (k28 : Int → ts_M → Prop) (y5 : Int) (M : ts_M) : Prop :=
  ((ts_w ((L : Int) - 4) < ts_w y5 → Q 1 M) ∧ (¬ (ts_w ((L : Int) - 4) < ts_w y5) → ((0 ≤ ts_w y5 ∧ ts_w y5 < (L : Int)) ∧ ((ts_w (ts_and (ts_xs xs (ts_w y5)) 63) = 0 → wL_law_B300 L xs k28 Q y5 M) ∧ (¬ (ts_w (ts_and (ts_xs xs (ts_w y5)) 63) = 0) → ((ts_w (ts_and (ts_xs xs (ts_w y5)) 63) = 1 → wL_law_B368 L xs k28 Q y5 M) ∧ (¬ (ts_w (ts_and (ts_xs xs (ts_w y5)) 63) = 1) → ((ts_w (ts_and (ts_xs xs (ts_w y5)) 63) = 2 → wL_law_B424 L xs k28 Q y5 M) ∧ (¬ (ts_w (ts_and (ts_xs xs (ts_w y5)) 63) = 2) → ((ts_w (ts_and (ts_xs xs (ts_w y5)) 63) = 3 → wL_law_B480 L xs k28 Q y5 M) ∧ (¬ (ts_w (ts_and (ts_xs xs (ts_w y5)) 63) = 3) → ((ts_w (ts_and (ts_xs xs (ts_w y5)) 63) = 4 → wL_law_B536 L xs k28 Q y5 M) ∧ (¬ (ts_w (ts_and (ts_xs xs (ts_w y5)) 63) = 4) → ((ts_w (ts_and (ts_xs xs (ts_w y5)) 63) = 5 → wL_law_B580 L xs k28 Q y5 M) ∧ (¬ (ts_w (ts_and (ts_xs xs (ts_w y5)) 63) = 5) → ((ts_w (ts_and (ts_xs xs (ts_w y5)) 63) = 6 → wL_law_B624 L xs k28 Q y5 M) ∧ (¬ (ts_w (ts_and (ts_xs xs (ts_w y5)) 63) = 6) → ((ts_w (ts_and (ts_xs xs (ts_w y5)) 63) = 7 → wL_law_B668 L xs k28 Q y5 M) ∧ (¬ (ts_w (ts_and (ts_xs xs (ts_w y5)) 63) = 7) → ((ts_w (ts_and (ts_xs xs (ts_w y5)) 63) = 8 → wL_law_B724 L xs k28 Q y5 M) ∧ (¬ (ts_w (ts_and (ts_xs xs (ts_w y5)) 63) = 8) → ((ts_w (ts_and (ts_xs xs (ts_w y5)) 63) = 9 → wL_law_B775 L xs k28 Q y5 M) ∧ (¬ (ts_w (ts_and (ts_xs xs (ts_w y5)) 63) = 9) → ((ts_w (ts_and (ts_xs xs (ts_w y5)) 63) = 10 → wL_law_B855 L xs k28 Q y5 M) ∧ (¬ (ts_w (ts_and (ts_xs xs (ts_w y5)) 63) = 10) → ((ts_w (ts_and (ts_xs xs (ts_w y5)) 63) = 11 → wL_law_B923 L xs k28 Q y5 M) ∧ (¬ (ts_w (ts_and (ts_xs xs (ts_w y5)) 63) = 11) → ((ts_w (ts_and (ts_xs xs (ts_w y5)) 63) = 12 → wL_law_B991 L xs k28 Q y5 M) ∧ (¬ (ts_w (ts_and (ts_xs xs (ts_w y5)) 63) = 12) → ((ts_w (ts_and (ts_xs xs (ts_w y5)) 63) = 13 → wL_law_B1004 L xs k28 Q y5 M) ∧ (¬ (ts_w (ts_and (ts_xs xs (ts_w y5)) 63) = 13) → ((ts_w (ts_and (ts_xs xs (ts_w y5)) 63) = 14 → wL_law_B1060 L xs k28 Q y5 M) ∧ (¬ (ts_w (ts_and (ts_xs xs (ts_w y5)) 63) = 14) → ((ts_w (ts_and (ts_xs xs (ts_w y5)) 63) = 15 → wL_law_B1116 L xs k28 Q y5 M) ∧ (¬ (ts_w (ts_and (ts_xs xs (ts_w y5)) 63) = 15) → ((ts_w (ts_and (ts_xs xs (ts_w y5)) 63) = 16 → wL_law_B1172 L xs k28 Q y5 M) ∧ (¬ (ts_w (ts_and (ts_xs xs (ts_w y5)) 63) = 16) → ((ts_w (ts_and (ts_xs xs (ts_w y5)) 63) = 17 → wL_law_B1228 L xs k28 Q y5 M) ∧ (¬ (ts_w (ts_and (ts_xs xs (ts_w y5)) 63) = 17) → ((ts_w (ts_and (ts_xs xs (ts_w y5)) 63) = 18 → wL_law_B1241 L xs k28 Q y5 M) ∧ (¬ (ts_w (ts_and (ts_xs xs (ts_w y5)) 63) = 18) → ((ts_w (ts_and (ts_xs xs (ts_w y5)) 63) = 19 → wL_law_B1297 L xs k28 Q y5 M) ∧ (¬ (ts_w (ts_and (ts_xs xs (ts_w y5)) 63) = 19) → ((ts_w (ts_and (ts_xs xs (ts_w y5)) 63) = 20 → wL_law_B1353 L xs k28 Q y5 M) ∧ (¬ (ts_w (ts_and (ts_xs xs (ts_w y5)) 63) = 20) → ((ts_w (ts_and (ts_xs xs (ts_w y5)) 63) = 21 → wL_law_B1366 L xs k28 Q y5 M) ∧ (¬ (ts_w (ts_and (ts_xs xs (ts_w y5)) 63) = 21) → ((ts_w (ts_and (ts_xs xs (ts_w y5)) 63) = 22 → wL_law_B1422 L xs k28 Q y5 M) ∧ (¬ (ts_w (ts_and (ts_xs xs (ts_w y5)) 63) = 22) → ((ts_w (ts_and (ts_xs xs (ts_w y5)) 63) = 23 → wL_law_B1466 L xs k28 Q y5 M) ∧ (¬ (ts_w (ts_and (ts_xs xs (ts_w y5)) 63) = 23) → ((ts_w (ts_and (ts_xs xs (ts_w y5)) 63) = 24 → wL_law_B1510 L xs k28 Q y5 M) ∧ (¬ (ts_w (ts_and (ts_xs xs (ts_w y5)) 63) = 24) → ((ts_w (ts_and (ts_xs xs (ts_w y5)) 63) = 25 → wL_law_B1523 L xs k28 Q y5 M) ∧ (¬ (ts_w (ts_and (ts_xs xs (ts_w y5)) 63) = 25) → ((ts_w (ts_and (ts_xs xs (ts_w y5)) 63) = 26 → wL_law_B1588 L xs k28 Q y5 M) ∧ (¬ (ts_w (ts_and (ts_xs xs (ts_w y5)) 63) = 26) → ((ts_w (ts_and (ts_xs xs (ts_w y5)) 63) = 27 → wL_law_B1632 L xs k28 Q y5 M) ∧ (¬ (ts_w (ts_and (ts_xs xs (ts_w y5)) 63) = 27) → ((ts_w (ts_and (ts_xs xs (ts_w y5)) 63) = 28 → wL_law_B1683 L xs k28 Q y5 M) ∧ (¬ (ts_w (ts_and (ts_xs xs (ts_w y5)) 63) = 28) → ((ts_w (ts_and (ts_xs xs (ts_w y5)) 63) = 29 → wL_law_B1746 L xs k28 Q y5 M) ∧ (¬ (ts_w (ts_and (ts_xs xs (ts_w y5)) 63) = 29) → ((ts_w (ts_and (ts_xs xs (ts_w y5)) 63) = 30 → wL_law_B1814 L xs k28 Q y5 M) ∧ (¬ (ts_w (ts_and (ts_xs xs (ts_w y5)) 63) = 30) → ((ts_w (ts_and (ts_xs xs (ts_w y5)) 63) = 31 → wL_law_B1827 L xs k28 Q y5 M) ∧ (¬ (ts_w (ts_and (ts_xs xs (ts_w y5)) 63) = 31) → ((ts_w (ts_and (ts_xs xs (ts_w y5)) 63) = 32 → wL_law_B1840 L xs k28 Q y5 M) ∧ (¬ (ts_w (ts_and (ts_xs xs (ts_w y5)) 63) = 32) → ((ts_w (ts_and (ts_xs xs (ts_w y5)) 63) = 33 → wL_law_B1896 L xs k28 Q y5 M) ∧ (¬ (ts_w (ts_and (ts_xs xs (ts_w y5)) 63) = 33) → ((ts_w (ts_and (ts_xs xs (ts_w y5)) 63) = 34 → wL_law_B1959 L xs k28 Q y5 M) ∧ (¬ (ts_w (ts_and (ts_xs xs (ts_w y5)) 63) = 34) → ((ts_w (ts_and (ts_xs xs (ts_w y5)) 63) = 35 → wL_law_B2022 L xs k28 Q y5 M) ∧ (¬ (ts_w (ts_and (ts_xs xs (ts_w y5)) 63) = 35) → ((ts_w (ts_and (ts_xs xs (ts_w y5)) 63) = 36 → wL_law_B2097 L xs k28 Q y5 M) ∧ (¬ (ts_w (ts_and (ts_xs xs (ts_w y5)) 63) = 36) → ((ts_w (ts_and (ts_xs xs (ts_w y5)) 63) = 37 → wL_law_B2110 L xs k28 Q y5 M) ∧ (¬ (ts_w (ts_and (ts_xs xs (ts_w y5)) 63) = 37) → ((ts_w (ts_and (ts_xs xs (ts_w y5)) 63) = 38 → wL_law_B2178 L xs k28 Q y5 M) ∧ (¬ (ts_w (ts_and (ts_xs xs (ts_w y5)) 63) = 38) → ((ts_w (ts_and (ts_xs xs (ts_w y5)) 63) = 39 → wL_law_B2246 L xs k28 Q y5 M) ∧ (¬ (ts_w (ts_and (ts_xs xs (ts_w y5)) 63) = 39) → ((ts_w (ts_and (ts_xs xs (ts_w y5)) 63) = 40 → wL_law_B2259 L xs k28 Q y5 M) ∧ (¬ (ts_w (ts_and (ts_xs xs (ts_w y5)) 63) = 40) → ((ts_w (ts_and (ts_xs xs (ts_w y5)) 63) = 41 → wL_law_B2272 L xs k28 Q y5 M) ∧ (¬ (ts_w (ts_and (ts_xs xs (ts_w y5)) 63) = 41) → ((ts_w (ts_and (ts_xs xs (ts_w y5)) 63) = 42 → wL_law_B2328 L xs k28 Q y5 M) ∧ (¬ (ts_w (ts_and (ts_xs xs (ts_w y5)) 63) = 42) → ((ts_w (ts_and (ts_xs xs (ts_w y5)) 63) = 43 → wL_law_B2341 L xs k28 Q y5 M) ∧ (¬ (ts_w (ts_and (ts_xs xs (ts_w y5)) 63) = 43) → ((ts_w (ts_and (ts_xs xs (ts_w y5)) 63) = 44 → wL_law_B2397 L xs k28 Q y5 M) ∧ (¬ (ts_w (ts_and (ts_xs xs (ts_w y5)) 63) = 44) → ((ts_w (ts_and (ts_xs xs (ts_w y5)) 63) = 45 → wL_law_B2410 L xs k28 Q y5 M) ∧ (¬ (ts_w (ts_and (ts_xs xs (ts_w y5)) 63) = 45) → ((ts_w (ts_and (ts_xs xs (ts_w y5)) 63) = 46 → wL_law_B2423 L xs k28 Q y5 M) ∧ (¬ (ts_w (ts_and (ts_xs xs (ts_w y5)) 63) = 46) → ((ts_w (ts_and (ts_xs xs (ts_w y5)) 63) = 47 → wL_law_B2436 L xs k28 Q y5 M) ∧ (¬ (ts_w (ts_and (ts_xs xs (ts_w y5)) 63) = 47) → ((ts_w (ts_and (ts_xs xs (ts_w y5)) 63) = 48 → wL_law_B2501 L xs k28 Q y5 M) ∧ (¬ (ts_w (ts_and (ts_xs xs (ts_w y5)) 63) = 48) → ((ts_w (ts_and (ts_xs xs (ts_w y5)) 63) = 49 → wL_law_B2567 L xs k28 Q y5 M) ∧ (¬ (ts_w (ts_and (ts_xs xs (ts_w y5)) 63) = 49) → ((ts_w (ts_and (ts_xs xs (ts_w y5)) 63) = 50 → wL_law_B2580 L xs k28 Q y5 M) ∧ (¬ (ts_w (ts_and (ts_xs xs (ts_w y5)) 63) = 50) → ((ts_w (ts_and (ts_xs xs (ts_w y5)) 63) = 51 → wL_law_B2593 L xs k28 Q y5 M) ∧ (¬ (ts_w (ts_and (ts_xs xs (ts_w y5)) 63) = 51) → ((ts_w (ts_and (ts_xs xs (ts_w y5)) 63) = 52 → wL_law_B2606 L xs k28 Q y5 M) ∧ (¬ (ts_w (ts_and (ts_xs xs (ts_w y5)) 63) = 52) → ((ts_w (ts_and (ts_xs xs (ts_w y5)) 63) = 53 → wL_law_B2662 L xs k28 Q y5 M) ∧ (¬ (ts_w (ts_and (ts_xs xs (ts_w y5)) 63) = 53) → ((ts_w (ts_and (ts_xs xs (ts_w y5)) 63) = 54 → wL_law_B2720 L xs k28 Q y5 M) ∧ (¬ (ts_w (ts_and (ts_xs xs (ts_w y5)) 63) = 54) → ((ts_w (ts_and (ts_xs xs (ts_w y5)) 63) = 55 → wL_law_B2764 L xs k28 Q y5 M) ∧ (¬ (ts_w (ts_and (ts_xs xs (ts_w y5)) 63) = 55) → ((ts_w (ts_and (ts_xs xs (ts_w y5)) 63) = 56 → wL_law_B2808 L xs k28 Q y5 M) ∧ (¬ (ts_w (ts_and (ts_xs xs (ts_w y5)) 63) = 56) → ((ts_w (ts_and (ts_xs xs (ts_w y5)) 63) = 57 → wL_law_B2852 L xs k28 Q y5 M) ∧ (¬ (ts_w (ts_and (ts_xs xs (ts_w y5)) 63) = 57) → ((ts_w (ts_and (ts_xs xs (ts_w y5)) 63) = 58 → wL_law_B2896 L xs k28 Q y5 M) ∧ (¬ (ts_w (ts_and (ts_xs xs (ts_w y5)) 63) = 58) → ((ts_w (ts_and (ts_xs xs (ts_w y5)) 63) = 59 → wL_law_B2909 L xs k28 Q y5 M) ∧ (¬ (ts_w (ts_and (ts_xs xs (ts_w y5)) 63) = 59) → wL_law_B2953 L xs k28 Q y5 M)))))))))))))))))))))))))))))))))))))))))))))))))))))))))))))))))))))))))))))))))))))))))))))))))))))))))))))))))))))))))))
set_option maxRecDepth 100000 in
set_option maxHeartbeats 40000000 in
theorem mL_law {p : Program} {l : Launch} {e : Env} {s : State} {m : MethodId} {args : Array Value} {below : List Frame} {meth : Method} {c : Code} {g : ts_W} {ret : Option FieldType} {Q0 : State → Prop} (C : ts_C p l s m args meth c g cL_law "TeaspoonSalonLaw" 9 ret) {b0 L : Nat} {xs : Nat → Int32} (hX0 : va_X b0 L xs s s.heap) (hb0 : b0 < s.heap.size) (hbA : ¬ ts_A g b0) {Q : Int → ts_M → Prop}
    (hret : ∀ {pc ck sk : Nat} {lv : List (Nat × Value)} {r : Int} {M : ts_M}, decode cL_law pc = .ok (.ireturn, 1) → ck ≤ 603072 → sk ≤ 7194730 → Q r M → ts_V p l e room_1 s m args below meth c g 9 ck sk Q0 pc lv [ts_v r] M) : ∀ (n : Nat) (y5 : Int) (M : ts_M), ts_lp1 (wL_law_L28 L xs Q) n y5 M → n ≤ 513 → ts_V p l e room_1 s m args below meth c g 9 (200 + (513 - n) * 30) (4100 + (513 - n) * 2100) Q0 28 [(0, .ref b0), (1, .ref (ts_ad g 154)), (2, .ref (ts_ad g 164)), (3, .ref (ts_ad g 175)), (4, .ref (ts_ad g 176)), (5, ts_v y5)] [] M := by
  have hl := C.2.2.2.2.2.2.2.2.2.2.2
  have H2953 : ∀ (n28 : Nat) (hn28 : n28 + 1 ≤ 513) (k28 : Int → ts_M → Prop) (hk28 : ∀ (y5 : Int) (M : ts_M), k28 y5 M → ts_V p l e room_1 s m args below meth c g 9 (200 + (513 - n28) * 30) (4100 + (513 - n28) * 2100) Q0 28 [(0, .ref b0), (1, .ref (ts_ad g 154)), (2, .ref (ts_ad g 164)), (3, .ref (ts_ad g 175)), (4, .ref (ts_ad g 176)), (5, ts_v y5)] [] M) (y5 : Int) (M : ts_M), wL_law_B2953 L xs k28 Q y5 M → ts_V p l e room_1 s m args below meth c g 9 (200 + (513 - (n28 + 1)) * 30 + 30) (4100 + (513 - (n28 + 1)) * 2100 + 2100) Q0 2953 [(0, .ref b0), (1, .ref (ts_ad g 154)), (2, .ref (ts_ad g 164)), (3, .ref (ts_ad g 175)), (4, .ref (ts_ad g 176)), (5, ts_v y5)] [] M := by
    intro n28 hn28 k28 hk28 y5 M
    unfold wL_law_B2953
    refine ts_iinc C dL_law_2953 5 rfl (by decide) (lv' := fun x9 => [(5, ts_v x9), (0, .ref b0), (1, .ref (ts_ad g 154)), (2, .ref (ts_ad g 164)), (3, .ref (ts_ad g 175)), (4, .ref (ts_ad g 176))]) (fun _ => rfl) (fun x9 => ?_)
    refine ts_goto C 28 dL_law_2956 rfl ?_
    exact ts_wid (by omega) (by omega) (ts_sub [1, 2, 3, 4, 5, 0] rfl (hk28 _ _))
  have H365 : ∀ (n28 : Nat) (hn28 : n28 + 1 ≤ 513) (k28 : Int → ts_M → Prop) (hk28 : ∀ (y5 : Int) (M : ts_M), k28 y5 M → ts_V p l e room_1 s m args below meth c g 9 (200 + (513 - n28) * 30) (4100 + (513 - n28) * 2100) Q0 28 [(0, .ref b0), (1, .ref (ts_ad g 154)), (2, .ref (ts_ad g 164)), (3, .ref (ts_ad g 175)), (4, .ref (ts_ad g 176)), (5, ts_v y5)] [] M) (y5 : Int) (M : ts_M), wL_law_B365 L xs k28 Q y5 M → ts_V p l e room_1 s m args below meth c g 9 (200 + (513 - (n28 + 1)) * 30 + 1) (4100 + (513 - (n28 + 1)) * 2100 + 6) Q0 365 [(0, .ref b0), (1, .ref (ts_ad g 154)), (2, .ref (ts_ad g 164)), (3, .ref (ts_ad g 175)), (4, .ref (ts_ad g 176)), (5, ts_v y5)] [] M := by
    intro n28 hn28 k28 hk28 y5 M
    unfold wL_law_B365
    refine ts_goto C 2953 dL_law_365 rfl ?_
    exact ts_wid (by omega) (by omega) (ts_sub [0, 1, 2, 3, 4, 5] rfl (H2953 n28 hn28 k28 hk28 _ _))
  have H300 : ∀ (n28 : Nat) (hn28 : n28 + 1 ≤ 513) (k28 : Int → ts_M → Prop) (hk28 : ∀ (y5 : Int) (M : ts_M), k28 y5 M → ts_V p l e room_1 s m args below meth c g 9 (200 + (513 - n28) * 30) (4100 + (513 - n28) * 2100) Q0 28 [(0, .ref b0), (1, .ref (ts_ad g 154)), (2, .ref (ts_ad g 164)), (3, .ref (ts_ad g 175)), (4, .ref (ts_ad g 176)), (5, ts_v y5)] [] M) (y5 : Int) (M : ts_M), wL_law_B300 L xs k28 Q y5 M → ts_V p l e room_1 s m args below meth c g 9 (200 + (513 - (n28 + 1)) * 30) (4100 + (513 - (n28 + 1)) * 2100) Q0 300 [(0, .ref b0), (1, .ref (ts_ad g 154)), (2, .ref (ts_ad g 164)), (3, .ref (ts_ad g 175)), (4, .ref (ts_ad g 176)), (5, ts_v y5)] [] M := by
    intro n28 hn28 k28 hk28 y5 M
    unfold wL_law_B300
    refine ts_aload_n C dL_law_300 rfl 1 rfl ?_
    refine ts_aload_n C dL_law_301 rfl 0 rfl ?_
    refine ts_iload C dL_law_302 5 rfl ?_
    refine ts_iconst C dL_law_304 1 rfl ?_
    refine ts_iadd C dL_law_305 ?_
    refine ts_sld C hX0 hb0 hbA dL_law_306 ?_
    refine ts_aload_n C dL_law_307 rfl 0 rfl ?_
    refine ts_iload C dL_law_308 5 rfl ?_
    refine ts_iconst C dL_law_310 2 rfl ?_
    refine ts_iadd C dL_law_311 ?_
    refine ts_sld C hX0 hb0 hbA dL_law_312 ?_
    refine ts_aload_n C dL_law_313 rfl 3 rfl ?_
    refine ts_callW C [.ref (ts_ad g 154), ts_v (ts_xs xs (ts_w (y5 + 1))), ts_v (ts_xs xs (ts_w (y5 + 2))), .ref (ts_ad g 175)] (mL_addSpoon hl) kL_addSpoon q_1086 rfl rfl (Nat.le_of_ble_eq_true rfl) ⟨Nat.le_of_ble_eq_true rfl, Nat.le_of_ble_eq_true rfl⟩ ⟨by simp only [room_1]; omega, by simp only [room_1]; omega⟩ dL_law_314 (fun r2 M1 => ?_)
    refine ts_istore C dL_law_317 (by decide) (lv' := fun x3 => [(6, ts_v x3), (0, .ref b0), (1, .ref (ts_ad g 154)), (2, .ref (ts_ad g 164)), (3, .ref (ts_ad g 175)), (4, .ref (ts_ad g 176)), (5, ts_v y5)]) (fun _ => rfl) (fun x3 => ?_)
    refine ts_aload_n C dL_law_319 rfl 3 rfl ?_
    refine ts_aload_n C dL_law_320 rfl 1 rfl ?_
    refine ts_iload C dL_law_321 6 rfl ?_
    refine ts_iconst C dL_law_323 1 rfl ?_
    refine ts_iadd C dL_law_324 ?_
    refine ts_sld C hX0 hb0 hbA dL_law_325 ?_
    refine ts_aload_n C dL_law_326 rfl 1 rfl ?_
    refine ts_iload C dL_law_327 6 rfl ?_
    refine ts_iconst C dL_law_329 2 rfl ?_
    refine ts_iadd C dL_law_330 ?_
    refine ts_sld C hX0 hb0 hbA dL_law_331 ?_
    refine ts_callVi C [ts_v (ts_xs xs (ts_w (y5 + 1))), ts_v (ts_xs xs (ts_w (y5 + 2)))] (mX12_addSpoon hl) kX12_addSpoon q_2026 (by decide) shX12 rfl rfl rfl (Nat.le_of_ble_eq_true rfl) ⟨Nat.le_of_ble_eq_true rfl, Nat.le_of_ble_eq_true rfl⟩ ⟨by simp only [room_1]; omega, by simp only [room_1]; omega⟩ dL_law_332 (fun r5 M4 => ?_)
    refine ts_istore C dL_law_335 (by decide) (lv' := fun x6 => [(7, ts_v x6), (6, ts_v x3), (0, .ref b0), (1, .ref (ts_ad g 154)), (2, .ref (ts_ad g 164)), (3, .ref (ts_ad g 175)), (4, .ref (ts_ad g 176)), (5, ts_v y5)]) (fun _ => rfl) (fun x6 => ?_)
    refine ts_aload_n C dL_law_337 rfl 4 rfl ?_
    refine ts_callVi C [] (mX12_thrown hl) kX12_thrown q_2022 (by decide) shX12 rfl rfl rfl (Nat.le_of_ble_eq_true rfl) ⟨Nat.le_of_ble_eq_true rfl, Nat.le_of_ble_eq_true rfl⟩ ⟨by simp only [room_1]; omega, by simp only [room_1]; omega⟩ dL_law_338 (fun r8 M7 => ?_)
    refine ts_iload C dL_law_341 1 rfl ?_
    refine ts_cmp_eq C rfl rfl 348 dL_law_343 rfl ?_ ?_
    · refine ts_iload C dL_law_348 1 rfl ?_
      refine ts_cm0_ne C rfl 365 dL_law_350 rfl ?_ ?_
      · exact ts_sub [2, 3, 4, 5, 6, 7] rfl (H365 n28 hn28 k28 hk28 _ _)
      · refine ts_aload_n C dL_law_353 rfl 5 rfl ?_
        refine ts_iconst C dL_law_354 0 rfl ?_
        refine ts_laldc C (by decide) shG175 tw_0 (by decide) dL_law_355 ?_
        refine ts_iload C dL_law_356 0 rfl ?_
        refine ts_i2l C dL_law_358 ?_
        refine ts_lcmp C dL_law_359 ?_
        refine ts_lif_eq C 365 dL_law_360 rfl ?_ ?_
        · exact ts_sub [2, 3, 4, 5, 6, 7] rfl (H365 n28 hn28 k28 hk28 _ _)
        · refine ts_iconst C dL_law_363 0 rfl ?_
          exact hret dL_law_364 (by omega) (by omega)
    · refine ts_iconst C dL_law_346 0 rfl ?_
      exact hret dL_law_347 (by omega) (by omega)
  have H421 : ∀ (n28 : Nat) (hn28 : n28 + 1 ≤ 513) (k28 : Int → ts_M → Prop) (hk28 : ∀ (y5 : Int) (M : ts_M), k28 y5 M → ts_V p l e room_1 s m args below meth c g 9 (200 + (513 - n28) * 30) (4100 + (513 - n28) * 2100) Q0 28 [(0, .ref b0), (1, .ref (ts_ad g 154)), (2, .ref (ts_ad g 164)), (3, .ref (ts_ad g 175)), (4, .ref (ts_ad g 176)), (5, ts_v y5)] [] M) (y5 : Int) (M : ts_M), wL_law_B421 L xs k28 Q y5 M → ts_V p l e room_1 s m args below meth c g 9 (200 + (513 - (n28 + 1)) * 30 + 1) (4100 + (513 - (n28 + 1)) * 2100 + 6) Q0 421 [(0, .ref b0), (1, .ref (ts_ad g 154)), (2, .ref (ts_ad g 164)), (3, .ref (ts_ad g 175)), (4, .ref (ts_ad g 176)), (5, ts_v y5)] [] M := by
    intro n28 hn28 k28 hk28 y5 M
    unfold wL_law_B421
    refine ts_goto C 2953 dL_law_421 rfl ?_
    exact ts_wid (by omega) (by omega) (ts_sub [0, 1, 2, 3, 4, 5] rfl (H2953 n28 hn28 k28 hk28 _ _))
  have H368 : ∀ (n28 : Nat) (hn28 : n28 + 1 ≤ 513) (k28 : Int → ts_M → Prop) (hk28 : ∀ (y5 : Int) (M : ts_M), k28 y5 M → ts_V p l e room_1 s m args below meth c g 9 (200 + (513 - n28) * 30) (4100 + (513 - n28) * 2100) Q0 28 [(0, .ref b0), (1, .ref (ts_ad g 154)), (2, .ref (ts_ad g 164)), (3, .ref (ts_ad g 175)), (4, .ref (ts_ad g 176)), (5, ts_v y5)] [] M) (y5 : Int) (M : ts_M), wL_law_B368 L xs k28 Q y5 M → ts_V p l e room_1 s m args below meth c g 9 (200 + (513 - (n28 + 1)) * 30) (4100 + (513 - (n28 + 1)) * 2100) Q0 368 [(0, .ref b0), (1, .ref (ts_ad g 154)), (2, .ref (ts_ad g 164)), (3, .ref (ts_ad g 175)), (4, .ref (ts_ad g 176)), (5, ts_v y5)] [] M := by
    intro n28 hn28 k28 hk28 y5 M
    unfold wL_law_B368
    refine ts_aload_n C dL_law_368 rfl 1 rfl ?_
    refine ts_aload_n C dL_law_369 rfl 0 rfl ?_
    refine ts_iload C dL_law_370 5 rfl ?_
    refine ts_iconst C dL_law_372 1 rfl ?_
    refine ts_iadd C dL_law_373 ?_
    refine ts_sld C hX0 hb0 hbA dL_law_374 ?_
    refine ts_aload_n C dL_law_375 rfl 3 rfl ?_
    refine ts_callW C [.ref (ts_ad g 154), ts_v (ts_xs xs (ts_w (y5 + 1))), .ref (ts_ad g 175)] (mL_propose hl) kL_propose q_1394 rfl rfl (Nat.le_of_ble_eq_true rfl) ⟨Nat.le_of_ble_eq_true rfl, Nat.le_of_ble_eq_true rfl⟩ ⟨by simp only [room_1]; omega, by simp only [room_1]; omega⟩ dL_law_376 (fun r11 M10 => ?_)
    refine ts_istore C dL_law_379 (by decide) (lv' := fun x12 => [(6, ts_v x12), (0, .ref b0), (1, .ref (ts_ad g 154)), (2, .ref (ts_ad g 164)), (3, .ref (ts_ad g 175)), (4, .ref (ts_ad g 176)), (5, ts_v y5)]) (fun _ => rfl) (fun x12 => ?_)
    refine ts_aload_n C dL_law_381 rfl 3 rfl ?_
    refine ts_aload_n C dL_law_382 rfl 1 rfl ?_
    refine ts_iload C dL_law_383 6 rfl ?_
    refine ts_iconst C dL_law_385 1 rfl ?_
    refine ts_iadd C dL_law_386 ?_
    refine ts_sld C hX0 hb0 hbA dL_law_387 ?_
    refine ts_callVi C [ts_v (ts_xs xs (ts_w (y5 + 1)))] (mX12_propose hl) kX12_propose q_2061 (by decide) shX12 rfl rfl rfl (Nat.le_of_ble_eq_true rfl) ⟨Nat.le_of_ble_eq_true rfl, Nat.le_of_ble_eq_true rfl⟩ ⟨by simp only [room_1]; omega, by simp only [room_1]; omega⟩ dL_law_388 (fun r14 M13 => ?_)
    refine ts_istore C dL_law_391 (by decide) (lv' := fun x15 => [(7, ts_v x15), (6, ts_v x12), (0, .ref b0), (1, .ref (ts_ad g 154)), (2, .ref (ts_ad g 164)), (3, .ref (ts_ad g 175)), (4, .ref (ts_ad g 176)), (5, ts_v y5)]) (fun _ => rfl) (fun x15 => ?_)
    refine ts_aload_n C dL_law_393 rfl 4 rfl ?_
    refine ts_callVi C [] (mX12_thrown hl) kX12_thrown q_2022 (by decide) shX12 rfl rfl rfl (Nat.le_of_ble_eq_true rfl) ⟨Nat.le_of_ble_eq_true rfl, Nat.le_of_ble_eq_true rfl⟩ ⟨by simp only [room_1]; omega, by simp only [room_1]; omega⟩ dL_law_394 (fun r17 M16 => ?_)
    refine ts_iload C dL_law_397 1 rfl ?_
    refine ts_cmp_eq C rfl rfl 404 dL_law_399 rfl ?_ ?_
    · refine ts_iload C dL_law_404 1 rfl ?_
      refine ts_cm0_ne C rfl 421 dL_law_406 rfl ?_ ?_
      · exact ts_sub [2, 3, 4, 5, 6, 7] rfl (H421 n28 hn28 k28 hk28 _ _)
      · refine ts_aload_n C dL_law_409 rfl 5 rfl ?_
        refine ts_iconst C dL_law_410 0 rfl ?_
        refine ts_laldc C (by decide) shG175 tw_0 (by decide) dL_law_411 ?_
        refine ts_iload C dL_law_412 0 rfl ?_
        refine ts_i2l C dL_law_414 ?_
        refine ts_lcmp C dL_law_415 ?_
        refine ts_lif_eq C 421 dL_law_416 rfl ?_ ?_
        · exact ts_sub [2, 3, 4, 5, 6, 7] rfl (H421 n28 hn28 k28 hk28 _ _)
        · refine ts_iconst C dL_law_419 0 rfl ?_
          exact hret dL_law_420 (by omega) (by omega)
    · refine ts_iconst C dL_law_402 0 rfl ?_
      exact hret dL_law_403 (by omega) (by omega)
  have H477 : ∀ (n28 : Nat) (hn28 : n28 + 1 ≤ 513) (k28 : Int → ts_M → Prop) (hk28 : ∀ (y5 : Int) (M : ts_M), k28 y5 M → ts_V p l e room_1 s m args below meth c g 9 (200 + (513 - n28) * 30) (4100 + (513 - n28) * 2100) Q0 28 [(0, .ref b0), (1, .ref (ts_ad g 154)), (2, .ref (ts_ad g 164)), (3, .ref (ts_ad g 175)), (4, .ref (ts_ad g 176)), (5, ts_v y5)] [] M) (y5 : Int) (M : ts_M), wL_law_B477 L xs k28 Q y5 M → ts_V p l e room_1 s m args below meth c g 9 (200 + (513 - (n28 + 1)) * 30 + 1) (4100 + (513 - (n28 + 1)) * 2100 + 6) Q0 477 [(0, .ref b0), (1, .ref (ts_ad g 154)), (2, .ref (ts_ad g 164)), (3, .ref (ts_ad g 175)), (4, .ref (ts_ad g 176)), (5, ts_v y5)] [] M := by
    intro n28 hn28 k28 hk28 y5 M
    unfold wL_law_B477
    refine ts_goto C 2953 dL_law_477 rfl ?_
    exact ts_wid (by omega) (by omega) (ts_sub [0, 1, 2, 3, 4, 5] rfl (H2953 n28 hn28 k28 hk28 _ _))
  have H424 : ∀ (n28 : Nat) (hn28 : n28 + 1 ≤ 513) (k28 : Int → ts_M → Prop) (hk28 : ∀ (y5 : Int) (M : ts_M), k28 y5 M → ts_V p l e room_1 s m args below meth c g 9 (200 + (513 - n28) * 30) (4100 + (513 - n28) * 2100) Q0 28 [(0, .ref b0), (1, .ref (ts_ad g 154)), (2, .ref (ts_ad g 164)), (3, .ref (ts_ad g 175)), (4, .ref (ts_ad g 176)), (5, ts_v y5)] [] M) (y5 : Int) (M : ts_M), wL_law_B424 L xs k28 Q y5 M → ts_V p l e room_1 s m args below meth c g 9 (200 + (513 - (n28 + 1)) * 30) (4100 + (513 - (n28 + 1)) * 2100) Q0 424 [(0, .ref b0), (1, .ref (ts_ad g 154)), (2, .ref (ts_ad g 164)), (3, .ref (ts_ad g 175)), (4, .ref (ts_ad g 176)), (5, ts_v y5)] [] M := by
    intro n28 hn28 k28 hk28 y5 M
    unfold wL_law_B424
    refine ts_aload_n C dL_law_424 rfl 1 rfl ?_
    refine ts_aload_n C dL_law_425 rfl 0 rfl ?_
    refine ts_iload C dL_law_426 5 rfl ?_
    refine ts_iconst C dL_law_428 1 rfl ?_
    refine ts_iadd C dL_law_429 ?_
    refine ts_sld C hX0 hb0 hbA dL_law_430 ?_
    refine ts_aload_n C dL_law_431 rfl 3 rfl ?_
    refine ts_callW C [.ref (ts_ad g 154), ts_v (ts_xs xs (ts_w (y5 + 1))), .ref (ts_ad g 175)] (mL_moveMain hl) kL_moveMain q_1403 rfl rfl (Nat.le_of_ble_eq_true rfl) ⟨Nat.le_of_ble_eq_true rfl, Nat.le_of_ble_eq_true rfl⟩ ⟨by simp only [room_1]; omega, by simp only [room_1]; omega⟩ dL_law_432 (fun r19 M18 => ?_)
    refine ts_istore C dL_law_435 (by decide) (lv' := fun x20 => [(6, ts_v x20), (0, .ref b0), (1, .ref (ts_ad g 154)), (2, .ref (ts_ad g 164)), (3, .ref (ts_ad g 175)), (4, .ref (ts_ad g 176)), (5, ts_v y5)]) (fun _ => rfl) (fun x20 => ?_)
    refine ts_aload_n C dL_law_437 rfl 3 rfl ?_
    refine ts_aload_n C dL_law_438 rfl 1 rfl ?_
    refine ts_iload C dL_law_439 6 rfl ?_
    refine ts_iconst C dL_law_441 1 rfl ?_
    refine ts_iadd C dL_law_442 ?_
    refine ts_sld C hX0 hb0 hbA dL_law_443 ?_
    refine ts_callVi C [ts_v (ts_xs xs (ts_w (y5 + 1)))] (mX12_moveMain hl) kX12_moveMain q_2077 (by decide) shX12 rfl rfl rfl (Nat.le_of_ble_eq_true rfl) ⟨Nat.le_of_ble_eq_true rfl, Nat.le_of_ble_eq_true rfl⟩ ⟨by simp only [room_1]; omega, by simp only [room_1]; omega⟩ dL_law_444 (fun r22 M21 => ?_)
    refine ts_istore C dL_law_447 (by decide) (lv' := fun x23 => [(7, ts_v x23), (6, ts_v x20), (0, .ref b0), (1, .ref (ts_ad g 154)), (2, .ref (ts_ad g 164)), (3, .ref (ts_ad g 175)), (4, .ref (ts_ad g 176)), (5, ts_v y5)]) (fun _ => rfl) (fun x23 => ?_)
    refine ts_aload_n C dL_law_449 rfl 4 rfl ?_
    refine ts_callVi C [] (mX12_thrown hl) kX12_thrown q_2022 (by decide) shX12 rfl rfl rfl (Nat.le_of_ble_eq_true rfl) ⟨Nat.le_of_ble_eq_true rfl, Nat.le_of_ble_eq_true rfl⟩ ⟨by simp only [room_1]; omega, by simp only [room_1]; omega⟩ dL_law_450 (fun r25 M24 => ?_)
    refine ts_iload C dL_law_453 1 rfl ?_
    refine ts_cmp_eq C rfl rfl 460 dL_law_455 rfl ?_ ?_
    · refine ts_iload C dL_law_460 1 rfl ?_
      refine ts_cm0_ne C rfl 477 dL_law_462 rfl ?_ ?_
      · exact ts_sub [2, 3, 4, 5, 6, 7] rfl (H477 n28 hn28 k28 hk28 _ _)
      · refine ts_aload_n C dL_law_465 rfl 5 rfl ?_
        refine ts_iconst C dL_law_466 0 rfl ?_
        refine ts_laldc C (by decide) shG175 tw_0 (by decide) dL_law_467 ?_
        refine ts_iload C dL_law_468 0 rfl ?_
        refine ts_i2l C dL_law_470 ?_
        refine ts_lcmp C dL_law_471 ?_
        refine ts_lif_eq C 477 dL_law_472 rfl ?_ ?_
        · exact ts_sub [2, 3, 4, 5, 6, 7] rfl (H477 n28 hn28 k28 hk28 _ _)
        · refine ts_iconst C dL_law_475 0 rfl ?_
          exact hret dL_law_476 (by omega) (by omega)
    · refine ts_iconst C dL_law_458 0 rfl ?_
      exact hret dL_law_459 (by omega) (by omega)
  have H533 : ∀ (n28 : Nat) (hn28 : n28 + 1 ≤ 513) (k28 : Int → ts_M → Prop) (hk28 : ∀ (y5 : Int) (M : ts_M), k28 y5 M → ts_V p l e room_1 s m args below meth c g 9 (200 + (513 - n28) * 30) (4100 + (513 - n28) * 2100) Q0 28 [(0, .ref b0), (1, .ref (ts_ad g 154)), (2, .ref (ts_ad g 164)), (3, .ref (ts_ad g 175)), (4, .ref (ts_ad g 176)), (5, ts_v y5)] [] M) (y5 : Int) (M : ts_M), wL_law_B533 L xs k28 Q y5 M → ts_V p l e room_1 s m args below meth c g 9 (200 + (513 - (n28 + 1)) * 30 + 1) (4100 + (513 - (n28 + 1)) * 2100 + 6) Q0 533 [(0, .ref b0), (1, .ref (ts_ad g 154)), (2, .ref (ts_ad g 164)), (3, .ref (ts_ad g 175)), (4, .ref (ts_ad g 176)), (5, ts_v y5)] [] M := by
    intro n28 hn28 k28 hk28 y5 M
    unfold wL_law_B533
    refine ts_goto C 2953 dL_law_533 rfl ?_
    exact ts_wid (by omega) (by omega) (ts_sub [0, 1, 2, 3, 4, 5] rfl (H2953 n28 hn28 k28 hk28 _ _))
  have H480 : ∀ (n28 : Nat) (hn28 : n28 + 1 ≤ 513) (k28 : Int → ts_M → Prop) (hk28 : ∀ (y5 : Int) (M : ts_M), k28 y5 M → ts_V p l e room_1 s m args below meth c g 9 (200 + (513 - n28) * 30) (4100 + (513 - n28) * 2100) Q0 28 [(0, .ref b0), (1, .ref (ts_ad g 154)), (2, .ref (ts_ad g 164)), (3, .ref (ts_ad g 175)), (4, .ref (ts_ad g 176)), (5, ts_v y5)] [] M) (y5 : Int) (M : ts_M), wL_law_B480 L xs k28 Q y5 M → ts_V p l e room_1 s m args below meth c g 9 (200 + (513 - (n28 + 1)) * 30) (4100 + (513 - (n28 + 1)) * 2100) Q0 480 [(0, .ref b0), (1, .ref (ts_ad g 154)), (2, .ref (ts_ad g 164)), (3, .ref (ts_ad g 175)), (4, .ref (ts_ad g 176)), (5, ts_v y5)] [] M := by
    intro n28 hn28 k28 hk28 y5 M
    unfold wL_law_B480
    refine ts_aload_n C dL_law_480 rfl 1 rfl ?_
    refine ts_aload_n C dL_law_481 rfl 0 rfl ?_
    refine ts_iload C dL_law_482 5 rfl ?_
    refine ts_iconst C dL_law_484 1 rfl ?_
    refine ts_iadd C dL_law_485 ?_
    refine ts_sld C hX0 hb0 hbA dL_law_486 ?_
    refine ts_aload_n C dL_law_487 rfl 3 rfl ?_
    refine ts_callW C [.ref (ts_ad g 154), ts_v (ts_xs xs (ts_w (y5 + 1))), .ref (ts_ad g 175)] (mL_moveAmendment hl) kL_moveAmendment q_1414 rfl rfl (Nat.le_of_ble_eq_true rfl) ⟨Nat.le_of_ble_eq_true rfl, Nat.le_of_ble_eq_true rfl⟩ ⟨by simp only [room_1]; omega, by simp only [room_1]; omega⟩ dL_law_488 (fun r27 M26 => ?_)
    refine ts_istore C dL_law_491 (by decide) (lv' := fun x28 => [(6, ts_v x28), (0, .ref b0), (1, .ref (ts_ad g 154)), (2, .ref (ts_ad g 164)), (3, .ref (ts_ad g 175)), (4, .ref (ts_ad g 176)), (5, ts_v y5)]) (fun _ => rfl) (fun x28 => ?_)
    refine ts_aload_n C dL_law_493 rfl 3 rfl ?_
    refine ts_aload_n C dL_law_494 rfl 1 rfl ?_
    refine ts_iload C dL_law_495 6 rfl ?_
    refine ts_iconst C dL_law_497 1 rfl ?_
    refine ts_iadd C dL_law_498 ?_
    refine ts_sld C hX0 hb0 hbA dL_law_499 ?_
    refine ts_callVi C [ts_v (ts_xs xs (ts_w (y5 + 1)))] (mX12_moveAmendment hl) kX12_moveAmendment q_2109 (by decide) shX12 rfl rfl rfl (Nat.le_of_ble_eq_true rfl) ⟨Nat.le_of_ble_eq_true rfl, Nat.le_of_ble_eq_true rfl⟩ ⟨by simp only [room_1]; omega, by simp only [room_1]; omega⟩ dL_law_500 (fun r30 M29 => ?_)
    refine ts_istore C dL_law_503 (by decide) (lv' := fun x31 => [(7, ts_v x31), (6, ts_v x28), (0, .ref b0), (1, .ref (ts_ad g 154)), (2, .ref (ts_ad g 164)), (3, .ref (ts_ad g 175)), (4, .ref (ts_ad g 176)), (5, ts_v y5)]) (fun _ => rfl) (fun x31 => ?_)
    refine ts_aload_n C dL_law_505 rfl 4 rfl ?_
    refine ts_callVi C [] (mX12_thrown hl) kX12_thrown q_2022 (by decide) shX12 rfl rfl rfl (Nat.le_of_ble_eq_true rfl) ⟨Nat.le_of_ble_eq_true rfl, Nat.le_of_ble_eq_true rfl⟩ ⟨by simp only [room_1]; omega, by simp only [room_1]; omega⟩ dL_law_506 (fun r33 M32 => ?_)
    refine ts_iload C dL_law_509 1 rfl ?_
    refine ts_cmp_eq C rfl rfl 516 dL_law_511 rfl ?_ ?_
    · refine ts_iload C dL_law_516 1 rfl ?_
      refine ts_cm0_ne C rfl 533 dL_law_518 rfl ?_ ?_
      · exact ts_sub [2, 3, 4, 5, 6, 7] rfl (H533 n28 hn28 k28 hk28 _ _)
      · refine ts_aload_n C dL_law_521 rfl 5 rfl ?_
        refine ts_iconst C dL_law_522 0 rfl ?_
        refine ts_laldc C (by decide) shG175 tw_0 (by decide) dL_law_523 ?_
        refine ts_iload C dL_law_524 0 rfl ?_
        refine ts_i2l C dL_law_526 ?_
        refine ts_lcmp C dL_law_527 ?_
        refine ts_lif_eq C 533 dL_law_528 rfl ?_ ?_
        · exact ts_sub [2, 3, 4, 5, 6, 7] rfl (H533 n28 hn28 k28 hk28 _ _)
        · refine ts_iconst C dL_law_531 0 rfl ?_
          exact hret dL_law_532 (by omega) (by omega)
    · refine ts_iconst C dL_law_514 0 rfl ?_
      exact hret dL_law_515 (by omega) (by omega)
  have H577 : ∀ (n28 : Nat) (hn28 : n28 + 1 ≤ 513) (k28 : Int → ts_M → Prop) (hk28 : ∀ (y5 : Int) (M : ts_M), k28 y5 M → ts_V p l e room_1 s m args below meth c g 9 (200 + (513 - n28) * 30) (4100 + (513 - n28) * 2100) Q0 28 [(0, .ref b0), (1, .ref (ts_ad g 154)), (2, .ref (ts_ad g 164)), (3, .ref (ts_ad g 175)), (4, .ref (ts_ad g 176)), (5, ts_v y5)] [] M) (y5 : Int) (M : ts_M), wL_law_B577 L xs k28 Q y5 M → ts_V p l e room_1 s m args below meth c g 9 (200 + (513 - (n28 + 1)) * 30 + 1) (4100 + (513 - (n28 + 1)) * 2100 + 6) Q0 577 [(0, .ref b0), (1, .ref (ts_ad g 154)), (2, .ref (ts_ad g 164)), (3, .ref (ts_ad g 175)), (4, .ref (ts_ad g 176)), (5, ts_v y5)] [] M := by
    intro n28 hn28 k28 hk28 y5 M
    unfold wL_law_B577
    refine ts_goto C 2953 dL_law_577 rfl ?_
    exact ts_wid (by omega) (by omega) (ts_sub [0, 1, 2, 3, 4, 5] rfl (H2953 n28 hn28 k28 hk28 _ _))
  have H536 : ∀ (n28 : Nat) (hn28 : n28 + 1 ≤ 513) (k28 : Int → ts_M → Prop) (hk28 : ∀ (y5 : Int) (M : ts_M), k28 y5 M → ts_V p l e room_1 s m args below meth c g 9 (200 + (513 - n28) * 30) (4100 + (513 - n28) * 2100) Q0 28 [(0, .ref b0), (1, .ref (ts_ad g 154)), (2, .ref (ts_ad g 164)), (3, .ref (ts_ad g 175)), (4, .ref (ts_ad g 176)), (5, ts_v y5)] [] M) (y5 : Int) (M : ts_M), wL_law_B536 L xs k28 Q y5 M → ts_V p l e room_1 s m args below meth c g 9 (200 + (513 - (n28 + 1)) * 30) (4100 + (513 - (n28 + 1)) * 2100) Q0 536 [(0, .ref b0), (1, .ref (ts_ad g 154)), (2, .ref (ts_ad g 164)), (3, .ref (ts_ad g 175)), (4, .ref (ts_ad g 176)), (5, ts_v y5)] [] M := by
    intro n28 hn28 k28 hk28 y5 M
    unfold wL_law_B536
    refine ts_aload_n C dL_law_536 rfl 1 rfl ?_
    refine ts_aload_n C dL_law_537 rfl 3 rfl ?_
    refine ts_callW C [.ref (ts_ad g 154), .ref (ts_ad g 175)] (mL_movePostponement hl) kL_movePostponement q_1423 rfl rfl (Nat.le_of_ble_eq_true rfl) ⟨Nat.le_of_ble_eq_true rfl, Nat.le_of_ble_eq_true rfl⟩ ⟨by simp only [room_1]; omega, by simp only [room_1]; omega⟩ dL_law_538 (fun r35 M34 => ?_)
    refine ts_istore C dL_law_541 (by decide) (lv' := fun x36 => [(6, ts_v x36), (0, .ref b0), (1, .ref (ts_ad g 154)), (2, .ref (ts_ad g 164)), (3, .ref (ts_ad g 175)), (4, .ref (ts_ad g 176)), (5, ts_v y5)]) (fun _ => rfl) (fun x36 => ?_)
    refine ts_aload_n C dL_law_543 rfl 3 rfl ?_
    refine ts_callVi C [] (mX12_movePostponement hl) kX12_movePostponement q_2121 (by decide) shX12 rfl rfl rfl (Nat.le_of_ble_eq_true rfl) ⟨Nat.le_of_ble_eq_true rfl, Nat.le_of_ble_eq_true rfl⟩ ⟨by simp only [room_1]; omega, by simp only [room_1]; omega⟩ dL_law_544 (fun r38 M37 => ?_)
    refine ts_istore C dL_law_547 (by decide) (lv' := fun x39 => [(7, ts_v x39), (6, ts_v x36), (0, .ref b0), (1, .ref (ts_ad g 154)), (2, .ref (ts_ad g 164)), (3, .ref (ts_ad g 175)), (4, .ref (ts_ad g 176)), (5, ts_v y5)]) (fun _ => rfl) (fun x39 => ?_)
    refine ts_aload_n C dL_law_549 rfl 4 rfl ?_
    refine ts_callVi C [] (mX12_thrown hl) kX12_thrown q_2022 (by decide) shX12 rfl rfl rfl (Nat.le_of_ble_eq_true rfl) ⟨Nat.le_of_ble_eq_true rfl, Nat.le_of_ble_eq_true rfl⟩ ⟨by simp only [room_1]; omega, by simp only [room_1]; omega⟩ dL_law_550 (fun r41 M40 => ?_)
    refine ts_iload C dL_law_553 1 rfl ?_
    refine ts_cmp_eq C rfl rfl 560 dL_law_555 rfl ?_ ?_
    · refine ts_iload C dL_law_560 1 rfl ?_
      refine ts_cm0_ne C rfl 577 dL_law_562 rfl ?_ ?_
      · exact ts_sub [2, 3, 4, 5, 6, 7] rfl (H577 n28 hn28 k28 hk28 _ _)
      · refine ts_aload_n C dL_law_565 rfl 5 rfl ?_
        refine ts_iconst C dL_law_566 0 rfl ?_
        refine ts_laldc C (by decide) shG175 tw_0 (by decide) dL_law_567 ?_
        refine ts_iload C dL_law_568 0 rfl ?_
        refine ts_i2l C dL_law_570 ?_
        refine ts_lcmp C dL_law_571 ?_
        refine ts_lif_eq C 577 dL_law_572 rfl ?_ ?_
        · exact ts_sub [2, 3, 4, 5, 6, 7] rfl (H577 n28 hn28 k28 hk28 _ _)
        · refine ts_iconst C dL_law_575 0 rfl ?_
          exact hret dL_law_576 (by omega) (by omega)
    · refine ts_iconst C dL_law_558 0 rfl ?_
      exact hret dL_law_559 (by omega) (by omega)
  have H621 : ∀ (n28 : Nat) (hn28 : n28 + 1 ≤ 513) (k28 : Int → ts_M → Prop) (hk28 : ∀ (y5 : Int) (M : ts_M), k28 y5 M → ts_V p l e room_1 s m args below meth c g 9 (200 + (513 - n28) * 30) (4100 + (513 - n28) * 2100) Q0 28 [(0, .ref b0), (1, .ref (ts_ad g 154)), (2, .ref (ts_ad g 164)), (3, .ref (ts_ad g 175)), (4, .ref (ts_ad g 176)), (5, ts_v y5)] [] M) (y5 : Int) (M : ts_M), wL_law_B621 L xs k28 Q y5 M → ts_V p l e room_1 s m args below meth c g 9 (200 + (513 - (n28 + 1)) * 30 + 1) (4100 + (513 - (n28 + 1)) * 2100 + 6) Q0 621 [(0, .ref b0), (1, .ref (ts_ad g 154)), (2, .ref (ts_ad g 164)), (3, .ref (ts_ad g 175)), (4, .ref (ts_ad g 176)), (5, ts_v y5)] [] M := by
    intro n28 hn28 k28 hk28 y5 M
    unfold wL_law_B621
    refine ts_goto C 2953 dL_law_621 rfl ?_
    exact ts_wid (by omega) (by omega) (ts_sub [0, 1, 2, 3, 4, 5] rfl (H2953 n28 hn28 k28 hk28 _ _))
  have H580 : ∀ (n28 : Nat) (hn28 : n28 + 1 ≤ 513) (k28 : Int → ts_M → Prop) (hk28 : ∀ (y5 : Int) (M : ts_M), k28 y5 M → ts_V p l e room_1 s m args below meth c g 9 (200 + (513 - n28) * 30) (4100 + (513 - n28) * 2100) Q0 28 [(0, .ref b0), (1, .ref (ts_ad g 154)), (2, .ref (ts_ad g 164)), (3, .ref (ts_ad g 175)), (4, .ref (ts_ad g 176)), (5, ts_v y5)] [] M) (y5 : Int) (M : ts_M), wL_law_B580 L xs k28 Q y5 M → ts_V p l e room_1 s m args below meth c g 9 (200 + (513 - (n28 + 1)) * 30) (4100 + (513 - (n28 + 1)) * 2100) Q0 580 [(0, .ref b0), (1, .ref (ts_ad g 154)), (2, .ref (ts_ad g 164)), (3, .ref (ts_ad g 175)), (4, .ref (ts_ad g 176)), (5, ts_v y5)] [] M := by
    intro n28 hn28 k28 hk28 y5 M
    unfold wL_law_B580
    refine ts_aload_n C dL_law_580 rfl 1 rfl ?_
    refine ts_aload_n C dL_law_581 rfl 3 rfl ?_
    refine ts_callW C [.ref (ts_ad g 154), .ref (ts_ad g 175)] (mL_moveClosure hl) kL_moveClosure q_1432 rfl rfl (Nat.le_of_ble_eq_true rfl) ⟨Nat.le_of_ble_eq_true rfl, Nat.le_of_ble_eq_true rfl⟩ ⟨by simp only [room_1]; omega, by simp only [room_1]; omega⟩ dL_law_582 (fun r43 M42 => ?_)
    refine ts_istore C dL_law_585 (by decide) (lv' := fun x44 => [(6, ts_v x44), (0, .ref b0), (1, .ref (ts_ad g 154)), (2, .ref (ts_ad g 164)), (3, .ref (ts_ad g 175)), (4, .ref (ts_ad g 176)), (5, ts_v y5)]) (fun _ => rfl) (fun x44 => ?_)
    refine ts_aload_n C dL_law_587 rfl 3 rfl ?_
    refine ts_callVi C [] (mX12_moveClosure hl) kX12_moveClosure q_2129 (by decide) shX12 rfl rfl rfl (Nat.le_of_ble_eq_true rfl) ⟨Nat.le_of_ble_eq_true rfl, Nat.le_of_ble_eq_true rfl⟩ ⟨by simp only [room_1]; omega, by simp only [room_1]; omega⟩ dL_law_588 (fun r46 M45 => ?_)
    refine ts_istore C dL_law_591 (by decide) (lv' := fun x47 => [(7, ts_v x47), (6, ts_v x44), (0, .ref b0), (1, .ref (ts_ad g 154)), (2, .ref (ts_ad g 164)), (3, .ref (ts_ad g 175)), (4, .ref (ts_ad g 176)), (5, ts_v y5)]) (fun _ => rfl) (fun x47 => ?_)
    refine ts_aload_n C dL_law_593 rfl 4 rfl ?_
    refine ts_callVi C [] (mX12_thrown hl) kX12_thrown q_2022 (by decide) shX12 rfl rfl rfl (Nat.le_of_ble_eq_true rfl) ⟨Nat.le_of_ble_eq_true rfl, Nat.le_of_ble_eq_true rfl⟩ ⟨by simp only [room_1]; omega, by simp only [room_1]; omega⟩ dL_law_594 (fun r49 M48 => ?_)
    refine ts_iload C dL_law_597 1 rfl ?_
    refine ts_cmp_eq C rfl rfl 604 dL_law_599 rfl ?_ ?_
    · refine ts_iload C dL_law_604 1 rfl ?_
      refine ts_cm0_ne C rfl 621 dL_law_606 rfl ?_ ?_
      · exact ts_sub [2, 3, 4, 5, 6, 7] rfl (H621 n28 hn28 k28 hk28 _ _)
      · refine ts_aload_n C dL_law_609 rfl 5 rfl ?_
        refine ts_iconst C dL_law_610 0 rfl ?_
        refine ts_laldc C (by decide) shG175 tw_0 (by decide) dL_law_611 ?_
        refine ts_iload C dL_law_612 0 rfl ?_
        refine ts_i2l C dL_law_614 ?_
        refine ts_lcmp C dL_law_615 ?_
        refine ts_lif_eq C 621 dL_law_616 rfl ?_ ?_
        · exact ts_sub [2, 3, 4, 5, 6, 7] rfl (H621 n28 hn28 k28 hk28 _ _)
        · refine ts_iconst C dL_law_619 0 rfl ?_
          exact hret dL_law_620 (by omega) (by omega)
    · refine ts_iconst C dL_law_602 0 rfl ?_
      exact hret dL_law_603 (by omega) (by omega)
  have H665 : ∀ (n28 : Nat) (hn28 : n28 + 1 ≤ 513) (k28 : Int → ts_M → Prop) (hk28 : ∀ (y5 : Int) (M : ts_M), k28 y5 M → ts_V p l e room_1 s m args below meth c g 9 (200 + (513 - n28) * 30) (4100 + (513 - n28) * 2100) Q0 28 [(0, .ref b0), (1, .ref (ts_ad g 154)), (2, .ref (ts_ad g 164)), (3, .ref (ts_ad g 175)), (4, .ref (ts_ad g 176)), (5, ts_v y5)] [] M) (y5 : Int) (M : ts_M), wL_law_B665 L xs k28 Q y5 M → ts_V p l e room_1 s m args below meth c g 9 (200 + (513 - (n28 + 1)) * 30 + 1) (4100 + (513 - (n28 + 1)) * 2100 + 6) Q0 665 [(0, .ref b0), (1, .ref (ts_ad g 154)), (2, .ref (ts_ad g 164)), (3, .ref (ts_ad g 175)), (4, .ref (ts_ad g 176)), (5, ts_v y5)] [] M := by
    intro n28 hn28 k28 hk28 y5 M
    unfold wL_law_B665
    refine ts_goto C 2953 dL_law_665 rfl ?_
    exact ts_wid (by omega) (by omega) (ts_sub [0, 1, 2, 3, 4, 5] rfl (H2953 n28 hn28 k28 hk28 _ _))
  have H624 : ∀ (n28 : Nat) (hn28 : n28 + 1 ≤ 513) (k28 : Int → ts_M → Prop) (hk28 : ∀ (y5 : Int) (M : ts_M), k28 y5 M → ts_V p l e room_1 s m args below meth c g 9 (200 + (513 - n28) * 30) (4100 + (513 - n28) * 2100) Q0 28 [(0, .ref b0), (1, .ref (ts_ad g 154)), (2, .ref (ts_ad g 164)), (3, .ref (ts_ad g 175)), (4, .ref (ts_ad g 176)), (5, ts_v y5)] [] M) (y5 : Int) (M : ts_M), wL_law_B624 L xs k28 Q y5 M → ts_V p l e room_1 s m args below meth c g 9 (200 + (513 - (n28 + 1)) * 30) (4100 + (513 - (n28 + 1)) * 2100) Q0 624 [(0, .ref b0), (1, .ref (ts_ad g 154)), (2, .ref (ts_ad g 164)), (3, .ref (ts_ad g 175)), (4, .ref (ts_ad g 176)), (5, ts_v y5)] [] M := by
    intro n28 hn28 k28 hk28 y5 M
    unfold wL_law_B624
    refine ts_aload_n C dL_law_624 rfl 1 rfl ?_
    refine ts_aload_n C dL_law_625 rfl 3 rfl ?_
    refine ts_callW C [.ref (ts_ad g 154), .ref (ts_ad g 175)] (mL_moveAdjournment hl) kL_moveAdjournment q_1441 rfl rfl (Nat.le_of_ble_eq_true rfl) ⟨Nat.le_of_ble_eq_true rfl, Nat.le_of_ble_eq_true rfl⟩ ⟨by simp only [room_1]; omega, by simp only [room_1]; omega⟩ dL_law_626 (fun r51 M50 => ?_)
    refine ts_istore C dL_law_629 (by decide) (lv' := fun x52 => [(6, ts_v x52), (0, .ref b0), (1, .ref (ts_ad g 154)), (2, .ref (ts_ad g 164)), (3, .ref (ts_ad g 175)), (4, .ref (ts_ad g 176)), (5, ts_v y5)]) (fun _ => rfl) (fun x52 => ?_)
    refine ts_aload_n C dL_law_631 rfl 3 rfl ?_
    refine ts_callVi C [] (mX12_moveAdjournment hl) kX12_moveAdjournment q_2133 (by decide) shX12 rfl rfl rfl (Nat.le_of_ble_eq_true rfl) ⟨Nat.le_of_ble_eq_true rfl, Nat.le_of_ble_eq_true rfl⟩ ⟨by simp only [room_1]; omega, by simp only [room_1]; omega⟩ dL_law_632 (fun r54 M53 => ?_)
    refine ts_istore C dL_law_635 (by decide) (lv' := fun x55 => [(7, ts_v x55), (6, ts_v x52), (0, .ref b0), (1, .ref (ts_ad g 154)), (2, .ref (ts_ad g 164)), (3, .ref (ts_ad g 175)), (4, .ref (ts_ad g 176)), (5, ts_v y5)]) (fun _ => rfl) (fun x55 => ?_)
    refine ts_aload_n C dL_law_637 rfl 4 rfl ?_
    refine ts_callVi C [] (mX12_thrown hl) kX12_thrown q_2022 (by decide) shX12 rfl rfl rfl (Nat.le_of_ble_eq_true rfl) ⟨Nat.le_of_ble_eq_true rfl, Nat.le_of_ble_eq_true rfl⟩ ⟨by simp only [room_1]; omega, by simp only [room_1]; omega⟩ dL_law_638 (fun r57 M56 => ?_)
    refine ts_iload C dL_law_641 1 rfl ?_
    refine ts_cmp_eq C rfl rfl 648 dL_law_643 rfl ?_ ?_
    · refine ts_iload C dL_law_648 1 rfl ?_
      refine ts_cm0_ne C rfl 665 dL_law_650 rfl ?_ ?_
      · exact ts_sub [2, 3, 4, 5, 6, 7] rfl (H665 n28 hn28 k28 hk28 _ _)
      · refine ts_aload_n C dL_law_653 rfl 5 rfl ?_
        refine ts_iconst C dL_law_654 0 rfl ?_
        refine ts_laldc C (by decide) shG175 tw_0 (by decide) dL_law_655 ?_
        refine ts_iload C dL_law_656 0 rfl ?_
        refine ts_i2l C dL_law_658 ?_
        refine ts_lcmp C dL_law_659 ?_
        refine ts_lif_eq C 665 dL_law_660 rfl ?_ ?_
        · exact ts_sub [2, 3, 4, 5, 6, 7] rfl (H665 n28 hn28 k28 hk28 _ _)
        · refine ts_iconst C dL_law_663 0 rfl ?_
          exact hret dL_law_664 (by omega) (by omega)
    · refine ts_iconst C dL_law_646 0 rfl ?_
      exact hret dL_law_647 (by omega) (by omega)
  have H721 : ∀ (n28 : Nat) (hn28 : n28 + 1 ≤ 513) (k28 : Int → ts_M → Prop) (hk28 : ∀ (y5 : Int) (M : ts_M), k28 y5 M → ts_V p l e room_1 s m args below meth c g 9 (200 + (513 - n28) * 30) (4100 + (513 - n28) * 2100) Q0 28 [(0, .ref b0), (1, .ref (ts_ad g 154)), (2, .ref (ts_ad g 164)), (3, .ref (ts_ad g 175)), (4, .ref (ts_ad g 176)), (5, ts_v y5)] [] M) (y5 : Int) (M : ts_M), wL_law_B721 L xs k28 Q y5 M → ts_V p l e room_1 s m args below meth c g 9 (200 + (513 - (n28 + 1)) * 30 + 1) (4100 + (513 - (n28 + 1)) * 2100 + 6) Q0 721 [(0, .ref b0), (1, .ref (ts_ad g 154)), (2, .ref (ts_ad g 164)), (3, .ref (ts_ad g 175)), (4, .ref (ts_ad g 176)), (5, ts_v y5)] [] M := by
    intro n28 hn28 k28 hk28 y5 M
    unfold wL_law_B721
    refine ts_goto C 2953 dL_law_721 rfl ?_
    exact ts_wid (by omega) (by omega) (ts_sub [0, 1, 2, 3, 4, 5] rfl (H2953 n28 hn28 k28 hk28 _ _))
  have H668 : ∀ (n28 : Nat) (hn28 : n28 + 1 ≤ 513) (k28 : Int → ts_M → Prop) (hk28 : ∀ (y5 : Int) (M : ts_M), k28 y5 M → ts_V p l e room_1 s m args below meth c g 9 (200 + (513 - n28) * 30) (4100 + (513 - n28) * 2100) Q0 28 [(0, .ref b0), (1, .ref (ts_ad g 154)), (2, .ref (ts_ad g 164)), (3, .ref (ts_ad g 175)), (4, .ref (ts_ad g 176)), (5, ts_v y5)] [] M) (y5 : Int) (M : ts_M), wL_law_B668 L xs k28 Q y5 M → ts_V p l e room_1 s m args below meth c g 9 (200 + (513 - (n28 + 1)) * 30) (4100 + (513 - (n28 + 1)) * 2100) Q0 668 [(0, .ref b0), (1, .ref (ts_ad g 154)), (2, .ref (ts_ad g 164)), (3, .ref (ts_ad g 175)), (4, .ref (ts_ad g 176)), (5, ts_v y5)] [] M := by
    intro n28 hn28 k28 hk28 y5 M
    unfold wL_law_B668
    refine ts_aload_n C dL_law_668 rfl 1 rfl ?_
    refine ts_aload_n C dL_law_669 rfl 0 rfl ?_
    refine ts_iload C dL_law_670 5 rfl ?_
    refine ts_iconst C dL_law_672 1 rfl ?_
    refine ts_iadd C dL_law_673 ?_
    refine ts_sld C hX0 hb0 hbA dL_law_674 ?_
    refine ts_aload_n C dL_law_675 rfl 3 rfl ?_
    refine ts_callW C [.ref (ts_ad g 154), ts_v (ts_xs xs (ts_w (y5 + 1))), .ref (ts_ad g 175)] (mL_speak hl) kL_speak q_1450 rfl rfl (Nat.le_of_ble_eq_true rfl) ⟨Nat.le_of_ble_eq_true rfl, Nat.le_of_ble_eq_true rfl⟩ ⟨by simp only [room_1]; omega, by simp only [room_1]; omega⟩ dL_law_676 (fun r59 M58 => ?_)
    refine ts_istore C dL_law_679 (by decide) (lv' := fun x60 => [(6, ts_v x60), (0, .ref b0), (1, .ref (ts_ad g 154)), (2, .ref (ts_ad g 164)), (3, .ref (ts_ad g 175)), (4, .ref (ts_ad g 176)), (5, ts_v y5)]) (fun _ => rfl) (fun x60 => ?_)
    refine ts_aload_n C dL_law_681 rfl 3 rfl ?_
    refine ts_aload_n C dL_law_682 rfl 1 rfl ?_
    refine ts_iload C dL_law_683 6 rfl ?_
    refine ts_iconst C dL_law_685 1 rfl ?_
    refine ts_iadd C dL_law_686 ?_
    refine ts_sld C hX0 hb0 hbA dL_law_687 ?_
    refine ts_callVi C [ts_v (ts_xs xs (ts_w (y5 + 1)))] (mX12_speak hl) kX12_speak q_2137 (by decide) shX12 rfl rfl rfl (Nat.le_of_ble_eq_true rfl) ⟨Nat.le_of_ble_eq_true rfl, Nat.le_of_ble_eq_true rfl⟩ ⟨by simp only [room_1]; omega, by simp only [room_1]; omega⟩ dL_law_688 (fun r62 M61 => ?_)
    refine ts_istore C dL_law_691 (by decide) (lv' := fun x63 => [(7, ts_v x63), (6, ts_v x60), (0, .ref b0), (1, .ref (ts_ad g 154)), (2, .ref (ts_ad g 164)), (3, .ref (ts_ad g 175)), (4, .ref (ts_ad g 176)), (5, ts_v y5)]) (fun _ => rfl) (fun x63 => ?_)
    refine ts_aload_n C dL_law_693 rfl 4 rfl ?_
    refine ts_callVi C [] (mX12_thrown hl) kX12_thrown q_2022 (by decide) shX12 rfl rfl rfl (Nat.le_of_ble_eq_true rfl) ⟨Nat.le_of_ble_eq_true rfl, Nat.le_of_ble_eq_true rfl⟩ ⟨by simp only [room_1]; omega, by simp only [room_1]; omega⟩ dL_law_694 (fun r65 M64 => ?_)
    refine ts_iload C dL_law_697 1 rfl ?_
    refine ts_cmp_eq C rfl rfl 704 dL_law_699 rfl ?_ ?_
    · refine ts_iload C dL_law_704 1 rfl ?_
      refine ts_cm0_ne C rfl 721 dL_law_706 rfl ?_ ?_
      · exact ts_sub [2, 3, 4, 5, 6, 7] rfl (H721 n28 hn28 k28 hk28 _ _)
      · refine ts_aload_n C dL_law_709 rfl 5 rfl ?_
        refine ts_iconst C dL_law_710 0 rfl ?_
        refine ts_laldc C (by decide) shG175 tw_0 (by decide) dL_law_711 ?_
        refine ts_iload C dL_law_712 0 rfl ?_
        refine ts_i2l C dL_law_714 ?_
        refine ts_lcmp C dL_law_715 ?_
        refine ts_lif_eq C 721 dL_law_716 rfl ?_ ?_
        · exact ts_sub [2, 3, 4, 5, 6, 7] rfl (H721 n28 hn28 k28 hk28 _ _)
        · refine ts_iconst C dL_law_719 0 rfl ?_
          exact hret dL_law_720 (by omega) (by omega)
    · refine ts_iconst C dL_law_702 0 rfl ?_
      exact hret dL_law_703 (by omega) (by omega)
  have H772 : ∀ (n28 : Nat) (hn28 : n28 + 1 ≤ 513) (k28 : Int → ts_M → Prop) (hk28 : ∀ (y5 : Int) (M : ts_M), k28 y5 M → ts_V p l e room_1 s m args below meth c g 9 (200 + (513 - n28) * 30) (4100 + (513 - n28) * 2100) Q0 28 [(0, .ref b0), (1, .ref (ts_ad g 154)), (2, .ref (ts_ad g 164)), (3, .ref (ts_ad g 175)), (4, .ref (ts_ad g 176)), (5, ts_v y5)] [] M) (y5 : Int) (M : ts_M), wL_law_B772 L xs k28 Q y5 M → ts_V p l e room_1 s m args below meth c g 9 (200 + (513 - (n28 + 1)) * 30 + 1) (4100 + (513 - (n28 + 1)) * 2100 + 6) Q0 772 [(0, .ref b0), (1, .ref (ts_ad g 154)), (2, .ref (ts_ad g 164)), (3, .ref (ts_ad g 175)), (4, .ref (ts_ad g 176)), (5, ts_v y5)] [] M := by
    intro n28 hn28 k28 hk28 y5 M
    unfold wL_law_B772
    refine ts_goto C 2953 dL_law_772 rfl ?_
    exact ts_wid (by omega) (by omega) (ts_sub [0, 1, 2, 3, 4, 5] rfl (H2953 n28 hn28 k28 hk28 _ _))
  have H766 : ∀ (n28 : Nat) (hn28 : n28 + 1 ≤ 513) (k28 : Int → ts_M → Prop) (hk28 : ∀ (y5 : Int) (M : ts_M), k28 y5 M → ts_V p l e room_1 s m args below meth c g 9 (200 + (513 - n28) * 30) (4100 + (513 - n28) * 2100) Q0 28 [(0, .ref b0), (1, .ref (ts_ad g 154)), (2, .ref (ts_ad g 164)), (3, .ref (ts_ad g 175)), (4, .ref (ts_ad g 176)), (5, ts_v y5)] [] M) (y5 : Int) (z0 : Int64) (z1 : Int64) (M : ts_M), wL_law_B766 L xs k28 Q y5 z0 z1 M → ts_V p l e room_1 s m args below meth c g 9 (200 + (513 - (n28 + 1)) * 30 + 1) (4100 + (513 - (n28 + 1)) * 2100 + 6) Q0 766 [(0, .ref b0), (1, .ref (ts_ad g 154)), (2, .ref (ts_ad g 164)), (3, .ref (ts_ad g 175)), (4, .ref (ts_ad g 176)), (5, ts_v y5)] [.long z0, .long z1] M := by
    intro n28 hn28 k28 hk28 y5 z0 z1 M
    unfold wL_law_B766
    refine ts_lcmp C dL_law_766 ?_
    refine ts_lif_eq C 772 dL_law_767 rfl ?_ ?_
    · exact ts_sub [0, 1, 2, 3, 4, 5] rfl (H772 n28 hn28 k28 hk28 _ _)
    · refine ts_iconst C dL_law_770 0 rfl ?_
      exact hret dL_law_771 (by omega) (by omega)
  have H724 : ∀ (n28 : Nat) (hn28 : n28 + 1 ≤ 513) (k28 : Int → ts_M → Prop) (hk28 : ∀ (y5 : Int) (M : ts_M), k28 y5 M → ts_V p l e room_1 s m args below meth c g 9 (200 + (513 - n28) * 30) (4100 + (513 - n28) * 2100) Q0 28 [(0, .ref b0), (1, .ref (ts_ad g 154)), (2, .ref (ts_ad g 164)), (3, .ref (ts_ad g 175)), (4, .ref (ts_ad g 176)), (5, ts_v y5)] [] M) (y5 : Int) (M : ts_M), wL_law_B724 L xs k28 Q y5 M → ts_V p l e room_1 s m args below meth c g 9 (200 + (513 - (n28 + 1)) * 30) (4100 + (513 - (n28 + 1)) * 2100) Q0 724 [(0, .ref b0), (1, .ref (ts_ad g 154)), (2, .ref (ts_ad g 164)), (3, .ref (ts_ad g 175)), (4, .ref (ts_ad g 176)), (5, ts_v y5)] [] M := by
    intro n28 hn28 k28 hk28 y5 M
    unfold wL_law_B724
    refine ts_aload_n C dL_law_724 rfl 1 rfl ?_
    refine ts_aload_n C dL_law_725 rfl 3 rfl ?_
    refine ts_callW C [.ref (ts_ad g 154), .ref (ts_ad g 175)] (mL_vote hl) kL_vote q_1462 rfl rfl (Nat.le_of_ble_eq_true rfl) ⟨Nat.le_of_ble_eq_true rfl, Nat.le_of_ble_eq_true rfl⟩ ⟨by simp only [room_1]; omega, by simp only [room_1]; omega⟩ dL_law_726 (fun r67 M66 => ?_)
    refine ts_istore C dL_law_729 (by decide) (lv' := fun x68 => [(6, ts_v x68), (0, .ref b0), (1, .ref (ts_ad g 154)), (2, .ref (ts_ad g 164)), (3, .ref (ts_ad g 175)), (4, .ref (ts_ad g 176)), (5, ts_v y5)]) (fun _ => rfl) (fun x68 => ?_)
    refine ts_aload_n C dL_law_731 rfl 3 rfl ?_
    refine ts_callVi C [] (mX12_vote hl) kX12_vote q_2157 (by decide) shX12 rfl rfl rfl (Nat.le_of_ble_eq_true rfl) ⟨Nat.le_of_ble_eq_true rfl, Nat.le_of_ble_eq_true rfl⟩ ⟨by simp only [room_1]; omega, by simp only [room_1]; omega⟩ dL_law_732 (fun r70 M69 => ?_)
    refine ts_istore C dL_law_735 (by decide) (lv' := fun x71 => [(7, ts_v x71), (6, ts_v x68), (0, .ref b0), (1, .ref (ts_ad g 154)), (2, .ref (ts_ad g 164)), (3, .ref (ts_ad g 175)), (4, .ref (ts_ad g 176)), (5, ts_v y5)]) (fun _ => rfl) (fun x71 => ?_)
    refine ts_aload_n C dL_law_737 rfl 4 rfl ?_
    refine ts_callVi C [] (mX12_thrown hl) kX12_thrown q_2022 (by decide) shX12 rfl rfl rfl (Nat.le_of_ble_eq_true rfl) ⟨Nat.le_of_ble_eq_true rfl, Nat.le_of_ble_eq_true rfl⟩ ⟨by simp only [room_1]; omega, by simp only [room_1]; omega⟩ dL_law_738 (fun r73 M72 => ?_)
    refine ts_iload C dL_law_741 1 rfl ?_
    refine ts_cmp_eq C rfl rfl 748 dL_law_743 rfl ?_ ?_
    · refine ts_iload C dL_law_748 1 rfl ?_
      refine ts_cm0_ne C rfl 772 dL_law_750 rfl ?_ ?_
      · exact ts_sub [2, 3, 4, 5, 6, 7] rfl (H772 n28 hn28 k28 hk28 _ _)
      · refine ts_aload_n C dL_law_753 rfl 5 rfl ?_
        refine ts_iconst C dL_law_754 0 rfl ?_
        refine ts_laldc C (by decide) shG175 tw_0 (by decide) dL_law_755 ?_
        refine ts_iload C dL_law_756 0 rfl ?_
        refine ts_cm0_eq C rfl 765 dL_law_758 rfl ?_ ?_
        · refine ts_lconst C dL_law_765 0 rfl ?_
          exact ts_sub [2, 3, 4, 5, 6, 7] rfl (H766 n28 hn28 k28 hk28 _ _ _ _)
        · refine ts_lconst C dL_law_761 1 rfl ?_
          refine ts_goto C 766 dL_law_762 rfl ?_
          exact ts_sub [2, 3, 4, 5, 6, 7] rfl (H766 n28 hn28 k28 hk28 _ _ _ _)
    · refine ts_iconst C dL_law_746 0 rfl ?_
      exact hret dL_law_747 (by omega) (by omega)
  have H852 : ∀ (n28 : Nat) (hn28 : n28 + 1 ≤ 513) (k28 : Int → ts_M → Prop) (hk28 : ∀ (y5 : Int) (M : ts_M), k28 y5 M → ts_V p l e room_1 s m args below meth c g 9 (200 + (513 - n28) * 30) (4100 + (513 - n28) * 2100) Q0 28 [(0, .ref b0), (1, .ref (ts_ad g 154)), (2, .ref (ts_ad g 164)), (3, .ref (ts_ad g 175)), (4, .ref (ts_ad g 176)), (5, ts_v y5)] [] M) (y5 : Int) (M : ts_M), wL_law_B852 L xs k28 Q y5 M → ts_V p l e room_1 s m args below meth c g 9 (200 + (513 - (n28 + 1)) * 30 + 1) (4100 + (513 - (n28 + 1)) * 2100 + 6) Q0 852 [(0, .ref b0), (1, .ref (ts_ad g 154)), (2, .ref (ts_ad g 164)), (3, .ref (ts_ad g 175)), (4, .ref (ts_ad g 176)), (5, ts_v y5)] [] M := by
    intro n28 hn28 k28 hk28 y5 M
    unfold wL_law_B852
    refine ts_goto C 2953 dL_law_852 rfl ?_
    exact ts_wid (by omega) (by omega) (ts_sub [0, 1, 2, 3, 4, 5] rfl (H2953 n28 hn28 k28 hk28 _ _))
  have H775 : ∀ (n28 : Nat) (hn28 : n28 + 1 ≤ 513) (k28 : Int → ts_M → Prop) (hk28 : ∀ (y5 : Int) (M : ts_M), k28 y5 M → ts_V p l e room_1 s m args below meth c g 9 (200 + (513 - n28) * 30) (4100 + (513 - n28) * 2100) Q0 28 [(0, .ref b0), (1, .ref (ts_ad g 154)), (2, .ref (ts_ad g 164)), (3, .ref (ts_ad g 175)), (4, .ref (ts_ad g 176)), (5, ts_v y5)] [] M) (y5 : Int) (M : ts_M), wL_law_B775 L xs k28 Q y5 M → ts_V p l e room_1 s m args below meth c g 9 (200 + (513 - (n28 + 1)) * 30) (4100 + (513 - (n28 + 1)) * 2100) Q0 775 [(0, .ref b0), (1, .ref (ts_ad g 154)), (2, .ref (ts_ad g 164)), (3, .ref (ts_ad g 175)), (4, .ref (ts_ad g 176)), (5, ts_v y5)] [] M := by
    intro n28 hn28 k28 hk28 y5 M
    unfold wL_law_B775
    refine ts_aload_n C dL_law_775 rfl 1 rfl ?_
    refine ts_aload_n C dL_law_776 rfl 0 rfl ?_
    refine ts_iload C dL_law_777 5 rfl ?_
    refine ts_iconst C dL_law_779 1 rfl ?_
    refine ts_iadd C dL_law_780 ?_
    refine ts_sld C hX0 hb0 hbA dL_law_781 ?_
    refine ts_aload_n C dL_law_782 rfl 0 rfl ?_
    refine ts_iload C dL_law_783 5 rfl ?_
    refine ts_iconst C dL_law_785 2 rfl ?_
    refine ts_iadd C dL_law_786 ?_
    refine ts_sld C hX0 hb0 hbA dL_law_787 ?_
    refine ts_aload_n C dL_law_788 rfl 0 rfl ?_
    refine ts_iload C dL_law_789 5 rfl ?_
    refine ts_iconst C dL_law_791 3 rfl ?_
    refine ts_iadd C dL_law_792 ?_
    refine ts_sld C hX0 hb0 hbA dL_law_793 ?_
    refine ts_aload_n C dL_law_794 rfl 3 rfl ?_
    refine ts_callW C [.ref (ts_ad g 154), ts_v (ts_xs xs (ts_w (y5 + 1))), ts_v (ts_xs xs (ts_w (y5 + 2))), ts_v (ts_xs xs (ts_w (y5 + 3))), .ref (ts_ad g 175)] (mL_spill hl) kL_spill q_1471 rfl rfl (Nat.le_of_ble_eq_true rfl) ⟨Nat.le_of_ble_eq_true rfl, Nat.le_of_ble_eq_true rfl⟩ ⟨by simp only [room_1]; omega, by simp only [room_1]; omega⟩ dL_law_795 (fun r75 M74 => ?_)
    refine ts_istore C dL_law_798 (by decide) (lv' := fun x76 => [(6, ts_v x76), (0, .ref b0), (1, .ref (ts_ad g 154)), (2, .ref (ts_ad g 164)), (3, .ref (ts_ad g 175)), (4, .ref (ts_ad g 176)), (5, ts_v y5)]) (fun _ => rfl) (fun x76 => ?_)
    refine ts_aload_n C dL_law_800 rfl 3 rfl ?_
    refine ts_aload_n C dL_law_801 rfl 1 rfl ?_
    refine ts_iload C dL_law_802 6 rfl ?_
    refine ts_iconst C dL_law_804 1 rfl ?_
    refine ts_iadd C dL_law_805 ?_
    refine ts_sld C hX0 hb0 hbA dL_law_806 ?_
    refine ts_aload_n C dL_law_807 rfl 1 rfl ?_
    refine ts_iload C dL_law_808 6 rfl ?_
    refine ts_iconst C dL_law_810 2 rfl ?_
    refine ts_iadd C dL_law_811 ?_
    refine ts_sld C hX0 hb0 hbA dL_law_812 ?_
    refine ts_aload_n C dL_law_813 rfl 1 rfl ?_
    refine ts_iload C dL_law_814 6 rfl ?_
    refine ts_iconst C dL_law_816 3 rfl ?_
    refine ts_iadd C dL_law_817 ?_
    refine ts_sld C hX0 hb0 hbA dL_law_818 ?_
    refine ts_callVi C [ts_v (ts_xs xs (ts_w (y5 + 1))), ts_v (ts_xs xs (ts_w (y5 + 2))), ts_v (ts_xs xs (ts_w (y5 + 3)))] (mX12_spill hl) kX12_spill q_2228 (by decide) shX12 rfl rfl rfl (Nat.le_of_ble_eq_true rfl) ⟨Nat.le_of_ble_eq_true rfl, Nat.le_of_ble_eq_true rfl⟩ ⟨by simp only [room_1]; omega, by simp only [room_1]; omega⟩ dL_law_819 (fun r78 M77 => ?_)
    refine ts_istore C dL_law_822 (by decide) (lv' := fun x79 => [(7, ts_v x79), (6, ts_v x76), (0, .ref b0), (1, .ref (ts_ad g 154)), (2, .ref (ts_ad g 164)), (3, .ref (ts_ad g 175)), (4, .ref (ts_ad g 176)), (5, ts_v y5)]) (fun _ => rfl) (fun x79 => ?_)
    refine ts_aload_n C dL_law_824 rfl 4 rfl ?_
    refine ts_callVi C [] (mX12_thrown hl) kX12_thrown q_2022 (by decide) shX12 rfl rfl rfl (Nat.le_of_ble_eq_true rfl) ⟨Nat.le_of_ble_eq_true rfl, Nat.le_of_ble_eq_true rfl⟩ ⟨by simp only [room_1]; omega, by simp only [room_1]; omega⟩ dL_law_825 (fun r81 M80 => ?_)
    refine ts_iload C dL_law_828 1 rfl ?_
    refine ts_cmp_eq C rfl rfl 835 dL_law_830 rfl ?_ ?_
    · refine ts_iload C dL_law_835 1 rfl ?_
      refine ts_cm0_ne C rfl 852 dL_law_837 rfl ?_ ?_
      · exact ts_sub [2, 3, 4, 5, 6, 7] rfl (H852 n28 hn28 k28 hk28 _ _)
      · refine ts_aload_n C dL_law_840 rfl 5 rfl ?_
        refine ts_iconst C dL_law_841 0 rfl ?_
        refine ts_laldc C (by decide) shG175 tw_0 (by decide) dL_law_842 ?_
        refine ts_iload C dL_law_843 0 rfl ?_
        refine ts_i2l C dL_law_845 ?_
        refine ts_lcmp C dL_law_846 ?_
        refine ts_lif_eq C 852 dL_law_847 rfl ?_ ?_
        · exact ts_sub [2, 3, 4, 5, 6, 7] rfl (H852 n28 hn28 k28 hk28 _ _)
        · refine ts_iconst C dL_law_850 0 rfl ?_
          exact hret dL_law_851 (by omega) (by omega)
    · refine ts_iconst C dL_law_833 0 rfl ?_
      exact hret dL_law_834 (by omega) (by omega)
  have H920 : ∀ (n28 : Nat) (hn28 : n28 + 1 ≤ 513) (k28 : Int → ts_M → Prop) (hk28 : ∀ (y5 : Int) (M : ts_M), k28 y5 M → ts_V p l e room_1 s m args below meth c g 9 (200 + (513 - n28) * 30) (4100 + (513 - n28) * 2100) Q0 28 [(0, .ref b0), (1, .ref (ts_ad g 154)), (2, .ref (ts_ad g 164)), (3, .ref (ts_ad g 175)), (4, .ref (ts_ad g 176)), (5, ts_v y5)] [] M) (y5 : Int) (M : ts_M), wL_law_B920 L xs k28 Q y5 M → ts_V p l e room_1 s m args below meth c g 9 (200 + (513 - (n28 + 1)) * 30 + 1) (4100 + (513 - (n28 + 1)) * 2100 + 6) Q0 920 [(0, .ref b0), (1, .ref (ts_ad g 154)), (2, .ref (ts_ad g 164)), (3, .ref (ts_ad g 175)), (4, .ref (ts_ad g 176)), (5, ts_v y5)] [] M := by
    intro n28 hn28 k28 hk28 y5 M
    unfold wL_law_B920
    refine ts_goto C 2953 dL_law_920 rfl ?_
    exact ts_wid (by omega) (by omega) (ts_sub [0, 1, 2, 3, 4, 5] rfl (H2953 n28 hn28 k28 hk28 _ _))
  have H855 : ∀ (n28 : Nat) (hn28 : n28 + 1 ≤ 513) (k28 : Int → ts_M → Prop) (hk28 : ∀ (y5 : Int) (M : ts_M), k28 y5 M → ts_V p l e room_1 s m args below meth c g 9 (200 + (513 - n28) * 30) (4100 + (513 - n28) * 2100) Q0 28 [(0, .ref b0), (1, .ref (ts_ad g 154)), (2, .ref (ts_ad g 164)), (3, .ref (ts_ad g 175)), (4, .ref (ts_ad g 176)), (5, ts_v y5)] [] M) (y5 : Int) (M : ts_M), wL_law_B855 L xs k28 Q y5 M → ts_V p l e room_1 s m args below meth c g 9 (200 + (513 - (n28 + 1)) * 30) (4100 + (513 - (n28 + 1)) * 2100) Q0 855 [(0, .ref b0), (1, .ref (ts_ad g 154)), (2, .ref (ts_ad g 164)), (3, .ref (ts_ad g 175)), (4, .ref (ts_ad g 176)), (5, ts_v y5)] [] M := by
    intro n28 hn28 k28 hk28 y5 M
    unfold wL_law_B855
    refine ts_aload_n C dL_law_855 rfl 1 rfl ?_
    refine ts_aload_n C dL_law_856 rfl 0 rfl ?_
    refine ts_iload C dL_law_857 5 rfl ?_
    refine ts_iconst C dL_law_859 1 rfl ?_
    refine ts_iadd C dL_law_860 ?_
    refine ts_sld C hX0 hb0 hbA dL_law_861 ?_
    refine ts_aload_n C dL_law_862 rfl 0 rfl ?_
    refine ts_iload C dL_law_863 5 rfl ?_
    refine ts_iconst C dL_law_865 2 rfl ?_
    refine ts_iadd C dL_law_866 ?_
    refine ts_sld C hX0 hb0 hbA dL_law_867 ?_
    refine ts_aload_n C dL_law_868 rfl 3 rfl ?_
    refine ts_callW C [.ref (ts_ad g 154), ts_v (ts_xs xs (ts_w (y5 + 1))), ts_v (ts_xs xs (ts_w (y5 + 2))), .ref (ts_ad g 175)] (mL_mop hl) kL_mop q_1480 rfl rfl (Nat.le_of_ble_eq_true rfl) ⟨Nat.le_of_ble_eq_true rfl, Nat.le_of_ble_eq_true rfl⟩ ⟨by simp only [room_1]; omega, by simp only [room_1]; omega⟩ dL_law_869 (fun r83 M82 => ?_)
    refine ts_istore C dL_law_872 (by decide) (lv' := fun x84 => [(6, ts_v x84), (0, .ref b0), (1, .ref (ts_ad g 154)), (2, .ref (ts_ad g 164)), (3, .ref (ts_ad g 175)), (4, .ref (ts_ad g 176)), (5, ts_v y5)]) (fun _ => rfl) (fun x84 => ?_)
    refine ts_aload_n C dL_law_874 rfl 3 rfl ?_
    refine ts_aload_n C dL_law_875 rfl 1 rfl ?_
    refine ts_iload C dL_law_876 6 rfl ?_
    refine ts_iconst C dL_law_878 1 rfl ?_
    refine ts_iadd C dL_law_879 ?_
    refine ts_sld C hX0 hb0 hbA dL_law_880 ?_
    refine ts_aload_n C dL_law_881 rfl 1 rfl ?_
    refine ts_iload C dL_law_882 6 rfl ?_
    refine ts_iconst C dL_law_884 2 rfl ?_
    refine ts_iadd C dL_law_885 ?_
    refine ts_sld C hX0 hb0 hbA dL_law_886 ?_
    refine ts_callVi C [ts_v (ts_xs xs (ts_w (y5 + 1))), ts_v (ts_xs xs (ts_w (y5 + 2)))] (mX12_mop hl) kX12_mop q_2262 (by decide) shX12 rfl rfl rfl (Nat.le_of_ble_eq_true rfl) ⟨Nat.le_of_ble_eq_true rfl, Nat.le_of_ble_eq_true rfl⟩ ⟨by simp only [room_1]; omega, by simp only [room_1]; omega⟩ dL_law_887 (fun r86 M85 => ?_)
    refine ts_istore C dL_law_890 (by decide) (lv' := fun x87 => [(7, ts_v x87), (6, ts_v x84), (0, .ref b0), (1, .ref (ts_ad g 154)), (2, .ref (ts_ad g 164)), (3, .ref (ts_ad g 175)), (4, .ref (ts_ad g 176)), (5, ts_v y5)]) (fun _ => rfl) (fun x87 => ?_)
    refine ts_aload_n C dL_law_892 rfl 4 rfl ?_
    refine ts_callVi C [] (mX12_thrown hl) kX12_thrown q_2022 (by decide) shX12 rfl rfl rfl (Nat.le_of_ble_eq_true rfl) ⟨Nat.le_of_ble_eq_true rfl, Nat.le_of_ble_eq_true rfl⟩ ⟨by simp only [room_1]; omega, by simp only [room_1]; omega⟩ dL_law_893 (fun r89 M88 => ?_)
    refine ts_iload C dL_law_896 1 rfl ?_
    refine ts_cmp_eq C rfl rfl 903 dL_law_898 rfl ?_ ?_
    · refine ts_iload C dL_law_903 1 rfl ?_
      refine ts_cm0_ne C rfl 920 dL_law_905 rfl ?_ ?_
      · exact ts_sub [2, 3, 4, 5, 6, 7] rfl (H920 n28 hn28 k28 hk28 _ _)
      · refine ts_aload_n C dL_law_908 rfl 5 rfl ?_
        refine ts_iconst C dL_law_909 0 rfl ?_
        refine ts_laldc C (by decide) shG175 tw_0 (by decide) dL_law_910 ?_
        refine ts_iload C dL_law_911 0 rfl ?_
        refine ts_i2l C dL_law_913 ?_
        refine ts_lcmp C dL_law_914 ?_
        refine ts_lif_eq C 920 dL_law_915 rfl ?_ ?_
        · exact ts_sub [2, 3, 4, 5, 6, 7] rfl (H920 n28 hn28 k28 hk28 _ _)
        · refine ts_iconst C dL_law_918 0 rfl ?_
          exact hret dL_law_919 (by omega) (by omega)
    · refine ts_iconst C dL_law_901 0 rfl ?_
      exact hret dL_law_902 (by omega) (by omega)
  have H988 : ∀ (n28 : Nat) (hn28 : n28 + 1 ≤ 513) (k28 : Int → ts_M → Prop) (hk28 : ∀ (y5 : Int) (M : ts_M), k28 y5 M → ts_V p l e room_1 s m args below meth c g 9 (200 + (513 - n28) * 30) (4100 + (513 - n28) * 2100) Q0 28 [(0, .ref b0), (1, .ref (ts_ad g 154)), (2, .ref (ts_ad g 164)), (3, .ref (ts_ad g 175)), (4, .ref (ts_ad g 176)), (5, ts_v y5)] [] M) (y5 : Int) (M : ts_M), wL_law_B988 L xs k28 Q y5 M → ts_V p l e room_1 s m args below meth c g 9 (200 + (513 - (n28 + 1)) * 30 + 1) (4100 + (513 - (n28 + 1)) * 2100 + 6) Q0 988 [(0, .ref b0), (1, .ref (ts_ad g 154)), (2, .ref (ts_ad g 164)), (3, .ref (ts_ad g 175)), (4, .ref (ts_ad g 176)), (5, ts_v y5)] [] M := by
    intro n28 hn28 k28 hk28 y5 M
    unfold wL_law_B988
    refine ts_goto C 2953 dL_law_988 rfl ?_
    exact ts_wid (by omega) (by omega) (ts_sub [0, 1, 2, 3, 4, 5] rfl (H2953 n28 hn28 k28 hk28 _ _))
  have H923 : ∀ (n28 : Nat) (hn28 : n28 + 1 ≤ 513) (k28 : Int → ts_M → Prop) (hk28 : ∀ (y5 : Int) (M : ts_M), k28 y5 M → ts_V p l e room_1 s m args below meth c g 9 (200 + (513 - n28) * 30) (4100 + (513 - n28) * 2100) Q0 28 [(0, .ref b0), (1, .ref (ts_ad g 154)), (2, .ref (ts_ad g 164)), (3, .ref (ts_ad g 175)), (4, .ref (ts_ad g 176)), (5, ts_v y5)] [] M) (y5 : Int) (M : ts_M), wL_law_B923 L xs k28 Q y5 M → ts_V p l e room_1 s m args below meth c g 9 (200 + (513 - (n28 + 1)) * 30) (4100 + (513 - (n28 + 1)) * 2100) Q0 923 [(0, .ref b0), (1, .ref (ts_ad g 154)), (2, .ref (ts_ad g 164)), (3, .ref (ts_ad g 175)), (4, .ref (ts_ad g 176)), (5, ts_v y5)] [] M := by
    intro n28 hn28 k28 hk28 y5 M
    unfold wL_law_B923
    refine ts_aload_n C dL_law_923 rfl 1 rfl ?_
    refine ts_aload_n C dL_law_924 rfl 0 rfl ?_
    refine ts_iload C dL_law_925 5 rfl ?_
    refine ts_iconst C dL_law_927 1 rfl ?_
    refine ts_iadd C dL_law_928 ?_
    refine ts_sld C hX0 hb0 hbA dL_law_929 ?_
    refine ts_aload_n C dL_law_930 rfl 0 rfl ?_
    refine ts_iload C dL_law_931 5 rfl ?_
    refine ts_iconst C dL_law_933 2 rfl ?_
    refine ts_iadd C dL_law_934 ?_
    refine ts_sld C hX0 hb0 hbA dL_law_935 ?_
    refine ts_aload_n C dL_law_936 rfl 3 rfl ?_
    refine ts_callW C [.ref (ts_ad g 154), ts_v (ts_xs xs (ts_w (y5 + 1))), ts_v (ts_xs xs (ts_w (y5 + 2))), .ref (ts_ad g 175)] (mL_giveSugar hl) kL_giveSugar q_1489 rfl rfl (Nat.le_of_ble_eq_true rfl) ⟨Nat.le_of_ble_eq_true rfl, Nat.le_of_ble_eq_true rfl⟩ ⟨by simp only [room_1]; omega, by simp only [room_1]; omega⟩ dL_law_937 (fun r91 M90 => ?_)
    refine ts_istore C dL_law_940 (by decide) (lv' := fun x92 => [(6, ts_v x92), (0, .ref b0), (1, .ref (ts_ad g 154)), (2, .ref (ts_ad g 164)), (3, .ref (ts_ad g 175)), (4, .ref (ts_ad g 176)), (5, ts_v y5)]) (fun _ => rfl) (fun x92 => ?_)
    refine ts_aload_n C dL_law_942 rfl 3 rfl ?_
    refine ts_aload_n C dL_law_943 rfl 1 rfl ?_
    refine ts_iload C dL_law_944 6 rfl ?_
    refine ts_iconst C dL_law_946 1 rfl ?_
    refine ts_iadd C dL_law_947 ?_
    refine ts_sld C hX0 hb0 hbA dL_law_948 ?_
    refine ts_aload_n C dL_law_949 rfl 1 rfl ?_
    refine ts_iload C dL_law_950 6 rfl ?_
    refine ts_iconst C dL_law_952 2 rfl ?_
    refine ts_iadd C dL_law_953 ?_
    refine ts_sld C hX0 hb0 hbA dL_law_954 ?_
    refine ts_callVi C [ts_v (ts_xs xs (ts_w (y5 + 1))), ts_v (ts_xs xs (ts_w (y5 + 2)))] (mX12_giveSugar hl) kX12_giveSugar q_2274 (by decide) shX12 rfl rfl rfl (Nat.le_of_ble_eq_true rfl) ⟨Nat.le_of_ble_eq_true rfl, Nat.le_of_ble_eq_true rfl⟩ ⟨by simp only [room_1]; omega, by simp only [room_1]; omega⟩ dL_law_955 (fun r94 M93 => ?_)
    refine ts_istore C dL_law_958 (by decide) (lv' := fun x95 => [(7, ts_v x95), (6, ts_v x92), (0, .ref b0), (1, .ref (ts_ad g 154)), (2, .ref (ts_ad g 164)), (3, .ref (ts_ad g 175)), (4, .ref (ts_ad g 176)), (5, ts_v y5)]) (fun _ => rfl) (fun x95 => ?_)
    refine ts_aload_n C dL_law_960 rfl 4 rfl ?_
    refine ts_callVi C [] (mX12_thrown hl) kX12_thrown q_2022 (by decide) shX12 rfl rfl rfl (Nat.le_of_ble_eq_true rfl) ⟨Nat.le_of_ble_eq_true rfl, Nat.le_of_ble_eq_true rfl⟩ ⟨by simp only [room_1]; omega, by simp only [room_1]; omega⟩ dL_law_961 (fun r97 M96 => ?_)
    refine ts_iload C dL_law_964 1 rfl ?_
    refine ts_cmp_eq C rfl rfl 971 dL_law_966 rfl ?_ ?_
    · refine ts_iload C dL_law_971 1 rfl ?_
      refine ts_cm0_ne C rfl 988 dL_law_973 rfl ?_ ?_
      · exact ts_sub [2, 3, 4, 5, 6, 7] rfl (H988 n28 hn28 k28 hk28 _ _)
      · refine ts_aload_n C dL_law_976 rfl 5 rfl ?_
        refine ts_iconst C dL_law_977 0 rfl ?_
        refine ts_laldc C (by decide) shG175 tw_0 (by decide) dL_law_978 ?_
        refine ts_iload C dL_law_979 0 rfl ?_
        refine ts_i2l C dL_law_981 ?_
        refine ts_lcmp C dL_law_982 ?_
        refine ts_lif_eq C 988 dL_law_983 rfl ?_ ?_
        · exact ts_sub [2, 3, 4, 5, 6, 7] rfl (H988 n28 hn28 k28 hk28 _ _)
        · refine ts_iconst C dL_law_986 0 rfl ?_
          exact hret dL_law_987 (by omega) (by omega)
    · refine ts_iconst C dL_law_969 0 rfl ?_
      exact hret dL_law_970 (by omega) (by omega)
  have H991 : ∀ (n28 : Nat) (hn28 : n28 + 1 ≤ 513) (k28 : Int → ts_M → Prop) (hk28 : ∀ (y5 : Int) (M : ts_M), k28 y5 M → ts_V p l e room_1 s m args below meth c g 9 (200 + (513 - n28) * 30) (4100 + (513 - n28) * 2100) Q0 28 [(0, .ref b0), (1, .ref (ts_ad g 154)), (2, .ref (ts_ad g 164)), (3, .ref (ts_ad g 175)), (4, .ref (ts_ad g 176)), (5, ts_v y5)] [] M) (y5 : Int) (M : ts_M), wL_law_B991 L xs k28 Q y5 M → ts_V p l e room_1 s m args below meth c g 9 (200 + (513 - (n28 + 1)) * 30) (4100 + (513 - (n28 + 1)) * 2100) Q0 991 [(0, .ref b0), (1, .ref (ts_ad g 154)), (2, .ref (ts_ad g 164)), (3, .ref (ts_ad g 175)), (4, .ref (ts_ad g 176)), (5, ts_v y5)] [] M := by
    intro n28 hn28 k28 hk28 y5 M
    unfold wL_law_B991
    refine ts_aload_n C dL_law_991 rfl 1 rfl ?_
    refine ts_callVi C [] (mX11_spoonCount hl) kX11_spoonCount q_459 (by decide) shX11 rfl rfl rfl (Nat.le_of_ble_eq_true rfl) ⟨Nat.le_of_ble_eq_true rfl, Nat.le_of_ble_eq_true rfl⟩ ⟨by simp only [room_1]; omega, by simp only [room_1]; omega⟩ dL_law_992 (fun r99 M98 => ?_)
    refine ts_aload_n C dL_law_995 rfl 2 rfl ?_
    refine ts_callVi C [] (mX12_spoonCount hl) kX12_spoonCount q_2286 (by decide) shX12 rfl rfl rfl (Nat.le_of_ble_eq_true rfl) ⟨Nat.le_of_ble_eq_true rfl, Nat.le_of_ble_eq_true rfl⟩ ⟨by simp only [room_1]; omega, by simp only [room_1]; omega⟩ dL_law_996 (fun r101 M100 => ?_)
    refine ts_cmp_eq C rfl rfl 2953 dL_law_999 rfl ?_ ?_
    · exact ts_wid (by omega) (by omega) (ts_sub [0, 1, 2, 3, 4, 5] rfl (H2953 n28 hn28 k28 hk28 _ _))
    · refine ts_iconst C dL_law_1002 0 rfl ?_
      exact hret dL_law_1003 (by omega) (by omega)
  have H1057 : ∀ (n28 : Nat) (hn28 : n28 + 1 ≤ 513) (k28 : Int → ts_M → Prop) (hk28 : ∀ (y5 : Int) (M : ts_M), k28 y5 M → ts_V p l e room_1 s m args below meth c g 9 (200 + (513 - n28) * 30) (4100 + (513 - n28) * 2100) Q0 28 [(0, .ref b0), (1, .ref (ts_ad g 154)), (2, .ref (ts_ad g 164)), (3, .ref (ts_ad g 175)), (4, .ref (ts_ad g 176)), (5, ts_v y5)] [] M) (y5 : Int) (M : ts_M), wL_law_B1057 L xs k28 Q y5 M → ts_V p l e room_1 s m args below meth c g 9 (200 + (513 - (n28 + 1)) * 30 + 1) (4100 + (513 - (n28 + 1)) * 2100 + 6) Q0 1057 [(0, .ref b0), (1, .ref (ts_ad g 154)), (2, .ref (ts_ad g 164)), (3, .ref (ts_ad g 175)), (4, .ref (ts_ad g 176)), (5, ts_v y5)] [] M := by
    intro n28 hn28 k28 hk28 y5 M
    unfold wL_law_B1057
    refine ts_goto C 2953 dL_law_1057 rfl ?_
    exact ts_wid (by omega) (by omega) (ts_sub [0, 1, 2, 3, 4, 5] rfl (H2953 n28 hn28 k28 hk28 _ _))
  have H1004 : ∀ (n28 : Nat) (hn28 : n28 + 1 ≤ 513) (k28 : Int → ts_M → Prop) (hk28 : ∀ (y5 : Int) (M : ts_M), k28 y5 M → ts_V p l e room_1 s m args below meth c g 9 (200 + (513 - n28) * 30) (4100 + (513 - n28) * 2100) Q0 28 [(0, .ref b0), (1, .ref (ts_ad g 154)), (2, .ref (ts_ad g 164)), (3, .ref (ts_ad g 175)), (4, .ref (ts_ad g 176)), (5, ts_v y5)] [] M) (y5 : Int) (M : ts_M), wL_law_B1004 L xs k28 Q y5 M → ts_V p l e room_1 s m args below meth c g 9 (200 + (513 - (n28 + 1)) * 30) (4100 + (513 - (n28 + 1)) * 2100) Q0 1004 [(0, .ref b0), (1, .ref (ts_ad g 154)), (2, .ref (ts_ad g 164)), (3, .ref (ts_ad g 175)), (4, .ref (ts_ad g 176)), (5, ts_v y5)] [] M := by
    intro n28 hn28 k28 hk28 y5 M
    unfold wL_law_B1004
    refine ts_aload_n C dL_law_1004 rfl 1 rfl ?_
    refine ts_aload_n C dL_law_1005 rfl 0 rfl ?_
    refine ts_iload C dL_law_1006 5 rfl ?_
    refine ts_iconst C dL_law_1008 1 rfl ?_
    refine ts_iadd C dL_law_1009 ?_
    refine ts_sld C hX0 hb0 hbA dL_law_1010 ?_
    refine ts_aload_n C dL_law_1011 rfl 3 rfl ?_
    refine ts_callW C [.ref (ts_ad g 154), ts_v (ts_xs xs (ts_w (y5 + 1))), .ref (ts_ad g 175)] (mL_weight hl) kL_weight q_1498 rfl rfl (Nat.le_of_ble_eq_true rfl) ⟨Nat.le_of_ble_eq_true rfl, Nat.le_of_ble_eq_true rfl⟩ ⟨by simp only [room_1]; omega, by simp only [room_1]; omega⟩ dL_law_1012 (fun r103 M102 => ?_)
    refine ts_istore C dL_law_1015 (by decide) (lv' := fun x104 => [(6, ts_v x104), (0, .ref b0), (1, .ref (ts_ad g 154)), (2, .ref (ts_ad g 164)), (3, .ref (ts_ad g 175)), (4, .ref (ts_ad g 176)), (5, ts_v y5)]) (fun _ => rfl) (fun x104 => ?_)
    refine ts_aload_n C dL_law_1017 rfl 3 rfl ?_
    refine ts_aload_n C dL_law_1018 rfl 1 rfl ?_
    refine ts_iload C dL_law_1019 6 rfl ?_
    refine ts_iconst C dL_law_1021 1 rfl ?_
    refine ts_iadd C dL_law_1022 ?_
    refine ts_sld C hX0 hb0 hbA dL_law_1023 ?_
    refine ts_callVi C [ts_v (ts_xs xs (ts_w (y5 + 1)))] (mX12_weight hl) kX12_weight q_2294 (by decide) shX12 rfl rfl rfl (Nat.le_of_ble_eq_true rfl) ⟨Nat.le_of_ble_eq_true rfl, Nat.le_of_ble_eq_true rfl⟩ ⟨by simp only [room_1]; omega, by simp only [room_1]; omega⟩ dL_law_1024 (fun r106 M105 => ?_)
    refine ts_istore C dL_law_1027 (by decide) (lv' := fun x107 => [(7, ts_v x107), (6, ts_v x104), (0, .ref b0), (1, .ref (ts_ad g 154)), (2, .ref (ts_ad g 164)), (3, .ref (ts_ad g 175)), (4, .ref (ts_ad g 176)), (5, ts_v y5)]) (fun _ => rfl) (fun x107 => ?_)
    refine ts_aload_n C dL_law_1029 rfl 4 rfl ?_
    refine ts_callVi C [] (mX12_thrown hl) kX12_thrown q_2022 (by decide) shX12 rfl rfl rfl (Nat.le_of_ble_eq_true rfl) ⟨Nat.le_of_ble_eq_true rfl, Nat.le_of_ble_eq_true rfl⟩ ⟨by simp only [room_1]; omega, by simp only [room_1]; omega⟩ dL_law_1030 (fun r109 M108 => ?_)
    refine ts_iload C dL_law_1033 1 rfl ?_
    refine ts_cmp_eq C rfl rfl 1040 dL_law_1035 rfl ?_ ?_
    · refine ts_iload C dL_law_1040 1 rfl ?_
      refine ts_cm0_ne C rfl 1057 dL_law_1042 rfl ?_ ?_
      · exact ts_sub [2, 3, 4, 5, 6, 7] rfl (H1057 n28 hn28 k28 hk28 _ _)
      · refine ts_aload_n C dL_law_1045 rfl 5 rfl ?_
        refine ts_iconst C dL_law_1046 0 rfl ?_
        refine ts_laldc C (by decide) shG175 tw_0 (by decide) dL_law_1047 ?_
        refine ts_iload C dL_law_1048 0 rfl ?_
        refine ts_i2l C dL_law_1050 ?_
        refine ts_lcmp C dL_law_1051 ?_
        refine ts_lif_eq C 1057 dL_law_1052 rfl ?_ ?_
        · exact ts_sub [2, 3, 4, 5, 6, 7] rfl (H1057 n28 hn28 k28 hk28 _ _)
        · refine ts_iconst C dL_law_1055 0 rfl ?_
          exact hret dL_law_1056 (by omega) (by omega)
    · refine ts_iconst C dL_law_1038 0 rfl ?_
      exact hret dL_law_1039 (by omega) (by omega)
  have H1113 : ∀ (n28 : Nat) (hn28 : n28 + 1 ≤ 513) (k28 : Int → ts_M → Prop) (hk28 : ∀ (y5 : Int) (M : ts_M), k28 y5 M → ts_V p l e room_1 s m args below meth c g 9 (200 + (513 - n28) * 30) (4100 + (513 - n28) * 2100) Q0 28 [(0, .ref b0), (1, .ref (ts_ad g 154)), (2, .ref (ts_ad g 164)), (3, .ref (ts_ad g 175)), (4, .ref (ts_ad g 176)), (5, ts_v y5)] [] M) (y5 : Int) (M : ts_M), wL_law_B1113 L xs k28 Q y5 M → ts_V p l e room_1 s m args below meth c g 9 (200 + (513 - (n28 + 1)) * 30 + 1) (4100 + (513 - (n28 + 1)) * 2100 + 6) Q0 1113 [(0, .ref b0), (1, .ref (ts_ad g 154)), (2, .ref (ts_ad g 164)), (3, .ref (ts_ad g 175)), (4, .ref (ts_ad g 176)), (5, ts_v y5)] [] M := by
    intro n28 hn28 k28 hk28 y5 M
    unfold wL_law_B1113
    refine ts_goto C 2953 dL_law_1113 rfl ?_
    exact ts_wid (by omega) (by omega) (ts_sub [0, 1, 2, 3, 4, 5] rfl (H2953 n28 hn28 k28 hk28 _ _))
  have H1060 : ∀ (n28 : Nat) (hn28 : n28 + 1 ≤ 513) (k28 : Int → ts_M → Prop) (hk28 : ∀ (y5 : Int) (M : ts_M), k28 y5 M → ts_V p l e room_1 s m args below meth c g 9 (200 + (513 - n28) * 30) (4100 + (513 - n28) * 2100) Q0 28 [(0, .ref b0), (1, .ref (ts_ad g 154)), (2, .ref (ts_ad g 164)), (3, .ref (ts_ad g 175)), (4, .ref (ts_ad g 176)), (5, ts_v y5)] [] M) (y5 : Int) (M : ts_M), wL_law_B1060 L xs k28 Q y5 M → ts_V p l e room_1 s m args below meth c g 9 (200 + (513 - (n28 + 1)) * 30) (4100 + (513 - (n28 + 1)) * 2100) Q0 1060 [(0, .ref b0), (1, .ref (ts_ad g 154)), (2, .ref (ts_ad g 164)), (3, .ref (ts_ad g 175)), (4, .ref (ts_ad g 176)), (5, ts_v y5)] [] M := by
    intro n28 hn28 k28 hk28 y5 M
    unfold wL_law_B1060
    refine ts_aload_n C dL_law_1060 rfl 1 rfl ?_
    refine ts_aload_n C dL_law_1061 rfl 0 rfl ?_
    refine ts_iload C dL_law_1062 5 rfl ?_
    refine ts_iconst C dL_law_1064 1 rfl ?_
    refine ts_iadd C dL_law_1065 ?_
    refine ts_sld C hX0 hb0 hbA dL_law_1066 ?_
    refine ts_aload_n C dL_law_1067 rfl 3 rfl ?_
    refine ts_callW C [.ref (ts_ad g 154), ts_v (ts_xs xs (ts_w (y5 + 1))), .ref (ts_ad g 175)] (mL_stance hl) kL_stance q_1511 rfl rfl (Nat.le_of_ble_eq_true rfl) ⟨Nat.le_of_ble_eq_true rfl, Nat.le_of_ble_eq_true rfl⟩ ⟨by simp only [room_1]; omega, by simp only [room_1]; omega⟩ dL_law_1068 (fun r111 M110 => ?_)
    refine ts_istore C dL_law_1071 (by decide) (lv' := fun x112 => [(6, ts_v x112), (0, .ref b0), (1, .ref (ts_ad g 154)), (2, .ref (ts_ad g 164)), (3, .ref (ts_ad g 175)), (4, .ref (ts_ad g 176)), (5, ts_v y5)]) (fun _ => rfl) (fun x112 => ?_)
    refine ts_aload_n C dL_law_1073 rfl 3 rfl ?_
    refine ts_aload_n C dL_law_1074 rfl 1 rfl ?_
    refine ts_iload C dL_law_1075 6 rfl ?_
    refine ts_iconst C dL_law_1077 1 rfl ?_
    refine ts_iadd C dL_law_1078 ?_
    refine ts_sld C hX0 hb0 hbA dL_law_1079 ?_
    refine ts_callVi C [ts_v (ts_xs xs (ts_w (y5 + 1)))] (mX12_stance hl) kX12_stance q_2302 (by decide) shX12 rfl rfl rfl (Nat.le_of_ble_eq_true rfl) ⟨Nat.le_of_ble_eq_true rfl, Nat.le_of_ble_eq_true rfl⟩ ⟨by simp only [room_1]; omega, by simp only [room_1]; omega⟩ dL_law_1080 (fun r114 M113 => ?_)
    refine ts_istore C dL_law_1083 (by decide) (lv' := fun x115 => [(7, ts_v x115), (6, ts_v x112), (0, .ref b0), (1, .ref (ts_ad g 154)), (2, .ref (ts_ad g 164)), (3, .ref (ts_ad g 175)), (4, .ref (ts_ad g 176)), (5, ts_v y5)]) (fun _ => rfl) (fun x115 => ?_)
    refine ts_aload_n C dL_law_1085 rfl 4 rfl ?_
    refine ts_callVi C [] (mX12_thrown hl) kX12_thrown q_2022 (by decide) shX12 rfl rfl rfl (Nat.le_of_ble_eq_true rfl) ⟨Nat.le_of_ble_eq_true rfl, Nat.le_of_ble_eq_true rfl⟩ ⟨by simp only [room_1]; omega, by simp only [room_1]; omega⟩ dL_law_1086 (fun r117 M116 => ?_)
    refine ts_iload C dL_law_1089 1 rfl ?_
    refine ts_cmp_eq C rfl rfl 1096 dL_law_1091 rfl ?_ ?_
    · refine ts_iload C dL_law_1096 1 rfl ?_
      refine ts_cm0_ne C rfl 1113 dL_law_1098 rfl ?_ ?_
      · exact ts_sub [2, 3, 4, 5, 6, 7] rfl (H1113 n28 hn28 k28 hk28 _ _)
      · refine ts_aload_n C dL_law_1101 rfl 5 rfl ?_
        refine ts_iconst C dL_law_1102 0 rfl ?_
        refine ts_laldc C (by decide) shG175 tw_0 (by decide) dL_law_1103 ?_
        refine ts_iload C dL_law_1104 0 rfl ?_
        refine ts_i2l C dL_law_1106 ?_
        refine ts_lcmp C dL_law_1107 ?_
        refine ts_lif_eq C 1113 dL_law_1108 rfl ?_ ?_
        · exact ts_sub [2, 3, 4, 5, 6, 7] rfl (H1113 n28 hn28 k28 hk28 _ _)
        · refine ts_iconst C dL_law_1111 0 rfl ?_
          exact hret dL_law_1112 (by omega) (by omega)
    · refine ts_iconst C dL_law_1094 0 rfl ?_
      exact hret dL_law_1095 (by omega) (by omega)
  have H1169 : ∀ (n28 : Nat) (hn28 : n28 + 1 ≤ 513) (k28 : Int → ts_M → Prop) (hk28 : ∀ (y5 : Int) (M : ts_M), k28 y5 M → ts_V p l e room_1 s m args below meth c g 9 (200 + (513 - n28) * 30) (4100 + (513 - n28) * 2100) Q0 28 [(0, .ref b0), (1, .ref (ts_ad g 154)), (2, .ref (ts_ad g 164)), (3, .ref (ts_ad g 175)), (4, .ref (ts_ad g 176)), (5, ts_v y5)] [] M) (y5 : Int) (M : ts_M), wL_law_B1169 L xs k28 Q y5 M → ts_V p l e room_1 s m args below meth c g 9 (200 + (513 - (n28 + 1)) * 30 + 1) (4100 + (513 - (n28 + 1)) * 2100 + 6) Q0 1169 [(0, .ref b0), (1, .ref (ts_ad g 154)), (2, .ref (ts_ad g 164)), (3, .ref (ts_ad g 175)), (4, .ref (ts_ad g 176)), (5, ts_v y5)] [] M := by
    intro n28 hn28 k28 hk28 y5 M
    unfold wL_law_B1169
    refine ts_goto C 2953 dL_law_1169 rfl ?_
    exact ts_wid (by omega) (by omega) (ts_sub [0, 1, 2, 3, 4, 5] rfl (H2953 n28 hn28 k28 hk28 _ _))
  have H1116 : ∀ (n28 : Nat) (hn28 : n28 + 1 ≤ 513) (k28 : Int → ts_M → Prop) (hk28 : ∀ (y5 : Int) (M : ts_M), k28 y5 M → ts_V p l e room_1 s m args below meth c g 9 (200 + (513 - n28) * 30) (4100 + (513 - n28) * 2100) Q0 28 [(0, .ref b0), (1, .ref (ts_ad g 154)), (2, .ref (ts_ad g 164)), (3, .ref (ts_ad g 175)), (4, .ref (ts_ad g 176)), (5, ts_v y5)] [] M) (y5 : Int) (M : ts_M), wL_law_B1116 L xs k28 Q y5 M → ts_V p l e room_1 s m args below meth c g 9 (200 + (513 - (n28 + 1)) * 30) (4100 + (513 - (n28 + 1)) * 2100) Q0 1116 [(0, .ref b0), (1, .ref (ts_ad g 154)), (2, .ref (ts_ad g 164)), (3, .ref (ts_ad g 175)), (4, .ref (ts_ad g 176)), (5, ts_v y5)] [] M := by
    intro n28 hn28 k28 hk28 y5 M
    unfold wL_law_B1116
    refine ts_aload_n C dL_law_1116 rfl 1 rfl ?_
    refine ts_aload_n C dL_law_1117 rfl 0 rfl ?_
    refine ts_iload C dL_law_1118 5 rfl ?_
    refine ts_iconst C dL_law_1120 1 rfl ?_
    refine ts_iadd C dL_law_1121 ?_
    refine ts_sld C hX0 hb0 hbA dL_law_1122 ?_
    refine ts_aload_n C dL_law_1123 rfl 3 rfl ?_
    refine ts_callW C [.ref (ts_ad g 154), ts_v (ts_xs xs (ts_w (y5 + 1))), .ref (ts_ad g 175)] (mL_sugar hl) kL_sugar q_1518 rfl rfl (Nat.le_of_ble_eq_true rfl) ⟨Nat.le_of_ble_eq_true rfl, Nat.le_of_ble_eq_true rfl⟩ ⟨by simp only [room_1]; omega, by simp only [room_1]; omega⟩ dL_law_1124 (fun r119 M118 => ?_)
    refine ts_istore C dL_law_1127 (by decide) (lv' := fun x120 => [(6, ts_v x120), (0, .ref b0), (1, .ref (ts_ad g 154)), (2, .ref (ts_ad g 164)), (3, .ref (ts_ad g 175)), (4, .ref (ts_ad g 176)), (5, ts_v y5)]) (fun _ => rfl) (fun x120 => ?_)
    refine ts_aload_n C dL_law_1129 rfl 3 rfl ?_
    refine ts_aload_n C dL_law_1130 rfl 1 rfl ?_
    refine ts_iload C dL_law_1131 6 rfl ?_
    refine ts_iconst C dL_law_1133 1 rfl ?_
    refine ts_iadd C dL_law_1134 ?_
    refine ts_sld C hX0 hb0 hbA dL_law_1135 ?_
    refine ts_callVi C [ts_v (ts_xs xs (ts_w (y5 + 1)))] (mX12_sugar hl) kX12_sugar q_2306 (by decide) shX12 rfl rfl rfl (Nat.le_of_ble_eq_true rfl) ⟨Nat.le_of_ble_eq_true rfl, Nat.le_of_ble_eq_true rfl⟩ ⟨by simp only [room_1]; omega, by simp only [room_1]; omega⟩ dL_law_1136 (fun r122 M121 => ?_)
    refine ts_istore C dL_law_1139 (by decide) (lv' := fun x123 => [(7, ts_v x123), (6, ts_v x120), (0, .ref b0), (1, .ref (ts_ad g 154)), (2, .ref (ts_ad g 164)), (3, .ref (ts_ad g 175)), (4, .ref (ts_ad g 176)), (5, ts_v y5)]) (fun _ => rfl) (fun x123 => ?_)
    refine ts_aload_n C dL_law_1141 rfl 4 rfl ?_
    refine ts_callVi C [] (mX12_thrown hl) kX12_thrown q_2022 (by decide) shX12 rfl rfl rfl (Nat.le_of_ble_eq_true rfl) ⟨Nat.le_of_ble_eq_true rfl, Nat.le_of_ble_eq_true rfl⟩ ⟨by simp only [room_1]; omega, by simp only [room_1]; omega⟩ dL_law_1142 (fun r125 M124 => ?_)
    refine ts_iload C dL_law_1145 1 rfl ?_
    refine ts_cmp_eq C rfl rfl 1152 dL_law_1147 rfl ?_ ?_
    · refine ts_iload C dL_law_1152 1 rfl ?_
      refine ts_cm0_ne C rfl 1169 dL_law_1154 rfl ?_ ?_
      · exact ts_sub [2, 3, 4, 5, 6, 7] rfl (H1169 n28 hn28 k28 hk28 _ _)
      · refine ts_aload_n C dL_law_1157 rfl 5 rfl ?_
        refine ts_iconst C dL_law_1158 0 rfl ?_
        refine ts_laldc C (by decide) shG175 tw_0 (by decide) dL_law_1159 ?_
        refine ts_iload C dL_law_1160 0 rfl ?_
        refine ts_i2l C dL_law_1162 ?_
        refine ts_lcmp C dL_law_1163 ?_
        refine ts_lif_eq C 1169 dL_law_1164 rfl ?_ ?_
        · exact ts_sub [2, 3, 4, 5, 6, 7] rfl (H1169 n28 hn28 k28 hk28 _ _)
        · refine ts_iconst C dL_law_1167 0 rfl ?_
          exact hret dL_law_1168 (by omega) (by omega)
    · refine ts_iconst C dL_law_1150 0 rfl ?_
      exact hret dL_law_1151 (by omega) (by omega)
  have H1225 : ∀ (n28 : Nat) (hn28 : n28 + 1 ≤ 513) (k28 : Int → ts_M → Prop) (hk28 : ∀ (y5 : Int) (M : ts_M), k28 y5 M → ts_V p l e room_1 s m args below meth c g 9 (200 + (513 - n28) * 30) (4100 + (513 - n28) * 2100) Q0 28 [(0, .ref b0), (1, .ref (ts_ad g 154)), (2, .ref (ts_ad g 164)), (3, .ref (ts_ad g 175)), (4, .ref (ts_ad g 176)), (5, ts_v y5)] [] M) (y5 : Int) (M : ts_M), wL_law_B1225 L xs k28 Q y5 M → ts_V p l e room_1 s m args below meth c g 9 (200 + (513 - (n28 + 1)) * 30 + 1) (4100 + (513 - (n28 + 1)) * 2100 + 6) Q0 1225 [(0, .ref b0), (1, .ref (ts_ad g 154)), (2, .ref (ts_ad g 164)), (3, .ref (ts_ad g 175)), (4, .ref (ts_ad g 176)), (5, ts_v y5)] [] M := by
    intro n28 hn28 k28 hk28 y5 M
    unfold wL_law_B1225
    refine ts_goto C 2953 dL_law_1225 rfl ?_
    exact ts_wid (by omega) (by omega) (ts_sub [0, 1, 2, 3, 4, 5] rfl (H2953 n28 hn28 k28 hk28 _ _))
  have H1172 : ∀ (n28 : Nat) (hn28 : n28 + 1 ≤ 513) (k28 : Int → ts_M → Prop) (hk28 : ∀ (y5 : Int) (M : ts_M), k28 y5 M → ts_V p l e room_1 s m args below meth c g 9 (200 + (513 - n28) * 30) (4100 + (513 - n28) * 2100) Q0 28 [(0, .ref b0), (1, .ref (ts_ad g 154)), (2, .ref (ts_ad g 164)), (3, .ref (ts_ad g 175)), (4, .ref (ts_ad g 176)), (5, ts_v y5)] [] M) (y5 : Int) (M : ts_M), wL_law_B1172 L xs k28 Q y5 M → ts_V p l e room_1 s m args below meth c g 9 (200 + (513 - (n28 + 1)) * 30) (4100 + (513 - (n28 + 1)) * 2100) Q0 1172 [(0, .ref b0), (1, .ref (ts_ad g 154)), (2, .ref (ts_ad g 164)), (3, .ref (ts_ad g 175)), (4, .ref (ts_ad g 176)), (5, ts_v y5)] [] M := by
    intro n28 hn28 k28 hk28 y5 M
    unfold wL_law_B1172
    refine ts_aload_n C dL_law_1172 rfl 1 rfl ?_
    refine ts_aload_n C dL_law_1173 rfl 0 rfl ?_
    refine ts_iload C dL_law_1174 5 rfl ?_
    refine ts_iconst C dL_law_1176 1 rfl ?_
    refine ts_iadd C dL_law_1177 ?_
    refine ts_sld C hX0 hb0 hbA dL_law_1178 ?_
    refine ts_aload_n C dL_law_1179 rfl 3 rfl ?_
    refine ts_callW C [.ref (ts_ad g 154), ts_v (ts_xs xs (ts_w (y5 + 1))), .ref (ts_ad g 175)] (mL_speeches hl) kL_speeches q_1525 rfl rfl (Nat.le_of_ble_eq_true rfl) ⟨Nat.le_of_ble_eq_true rfl, Nat.le_of_ble_eq_true rfl⟩ ⟨by simp only [room_1]; omega, by simp only [room_1]; omega⟩ dL_law_1180 (fun r127 M126 => ?_)
    refine ts_istore C dL_law_1183 (by decide) (lv' := fun x128 => [(6, ts_v x128), (0, .ref b0), (1, .ref (ts_ad g 154)), (2, .ref (ts_ad g 164)), (3, .ref (ts_ad g 175)), (4, .ref (ts_ad g 176)), (5, ts_v y5)]) (fun _ => rfl) (fun x128 => ?_)
    refine ts_aload_n C dL_law_1185 rfl 3 rfl ?_
    refine ts_aload_n C dL_law_1186 rfl 1 rfl ?_
    refine ts_iload C dL_law_1187 6 rfl ?_
    refine ts_iconst C dL_law_1189 1 rfl ?_
    refine ts_iadd C dL_law_1190 ?_
    refine ts_sld C hX0 hb0 hbA dL_law_1191 ?_
    refine ts_callVi C [ts_v (ts_xs xs (ts_w (y5 + 1)))] (mX12_speeches hl) kX12_speeches q_2310 (by decide) shX12 rfl rfl rfl (Nat.le_of_ble_eq_true rfl) ⟨Nat.le_of_ble_eq_true rfl, Nat.le_of_ble_eq_true rfl⟩ ⟨by simp only [room_1]; omega, by simp only [room_1]; omega⟩ dL_law_1192 (fun r130 M129 => ?_)
    refine ts_istore C dL_law_1195 (by decide) (lv' := fun x131 => [(7, ts_v x131), (6, ts_v x128), (0, .ref b0), (1, .ref (ts_ad g 154)), (2, .ref (ts_ad g 164)), (3, .ref (ts_ad g 175)), (4, .ref (ts_ad g 176)), (5, ts_v y5)]) (fun _ => rfl) (fun x131 => ?_)
    refine ts_aload_n C dL_law_1197 rfl 4 rfl ?_
    refine ts_callVi C [] (mX12_thrown hl) kX12_thrown q_2022 (by decide) shX12 rfl rfl rfl (Nat.le_of_ble_eq_true rfl) ⟨Nat.le_of_ble_eq_true rfl, Nat.le_of_ble_eq_true rfl⟩ ⟨by simp only [room_1]; omega, by simp only [room_1]; omega⟩ dL_law_1198 (fun r133 M132 => ?_)
    refine ts_iload C dL_law_1201 1 rfl ?_
    refine ts_cmp_eq C rfl rfl 1208 dL_law_1203 rfl ?_ ?_
    · refine ts_iload C dL_law_1208 1 rfl ?_
      refine ts_cm0_ne C rfl 1225 dL_law_1210 rfl ?_ ?_
      · exact ts_sub [2, 3, 4, 5, 6, 7] rfl (H1225 n28 hn28 k28 hk28 _ _)
      · refine ts_aload_n C dL_law_1213 rfl 5 rfl ?_
        refine ts_iconst C dL_law_1214 0 rfl ?_
        refine ts_laldc C (by decide) shG175 tw_0 (by decide) dL_law_1215 ?_
        refine ts_iload C dL_law_1216 0 rfl ?_
        refine ts_i2l C dL_law_1218 ?_
        refine ts_lcmp C dL_law_1219 ?_
        refine ts_lif_eq C 1225 dL_law_1220 rfl ?_ ?_
        · exact ts_sub [2, 3, 4, 5, 6, 7] rfl (H1225 n28 hn28 k28 hk28 _ _)
        · refine ts_iconst C dL_law_1223 0 rfl ?_
          exact hret dL_law_1224 (by omega) (by omega)
    · refine ts_iconst C dL_law_1206 0 rfl ?_
      exact hret dL_law_1207 (by omega) (by omega)
  have H1228 : ∀ (n28 : Nat) (hn28 : n28 + 1 ≤ 513) (k28 : Int → ts_M → Prop) (hk28 : ∀ (y5 : Int) (M : ts_M), k28 y5 M → ts_V p l e room_1 s m args below meth c g 9 (200 + (513 - n28) * 30) (4100 + (513 - n28) * 2100) Q0 28 [(0, .ref b0), (1, .ref (ts_ad g 154)), (2, .ref (ts_ad g 164)), (3, .ref (ts_ad g 175)), (4, .ref (ts_ad g 176)), (5, ts_v y5)] [] M) (y5 : Int) (M : ts_M), wL_law_B1228 L xs k28 Q y5 M → ts_V p l e room_1 s m args below meth c g 9 (200 + (513 - (n28 + 1)) * 30) (4100 + (513 - (n28 + 1)) * 2100) Q0 1228 [(0, .ref b0), (1, .ref (ts_ad g 154)), (2, .ref (ts_ad g 164)), (3, .ref (ts_ad g 175)), (4, .ref (ts_ad g 176)), (5, ts_v y5)] [] M := by
    intro n28 hn28 k28 hk28 y5 M
    unfold wL_law_B1228
    refine ts_aload_n C dL_law_1228 rfl 1 rfl ?_
    refine ts_callVi C [] (mX11_proposalCount hl) kX11_proposalCount q_463 (by decide) shX11 rfl rfl rfl (Nat.le_of_ble_eq_true rfl) ⟨Nat.le_of_ble_eq_true rfl, Nat.le_of_ble_eq_true rfl⟩ ⟨by simp only [room_1]; omega, by simp only [room_1]; omega⟩ dL_law_1229 (fun r135 M134 => ?_)
    refine ts_aload_n C dL_law_1232 rfl 2 rfl ?_
    refine ts_callVi C [] (mX12_proposalCount hl) kX12_proposalCount q_2322 (by decide) shX12 rfl rfl rfl (Nat.le_of_ble_eq_true rfl) ⟨Nat.le_of_ble_eq_true rfl, Nat.le_of_ble_eq_true rfl⟩ ⟨by simp only [room_1]; omega, by simp only [room_1]; omega⟩ dL_law_1233 (fun r137 M136 => ?_)
    refine ts_cmp_eq C rfl rfl 2953 dL_law_1236 rfl ?_ ?_
    · exact ts_wid (by omega) (by omega) (ts_sub [0, 1, 2, 3, 4, 5] rfl (H2953 n28 hn28 k28 hk28 _ _))
    · refine ts_iconst C dL_law_1239 0 rfl ?_
      exact hret dL_law_1240 (by omega) (by omega)
  have H1294 : ∀ (n28 : Nat) (hn28 : n28 + 1 ≤ 513) (k28 : Int → ts_M → Prop) (hk28 : ∀ (y5 : Int) (M : ts_M), k28 y5 M → ts_V p l e room_1 s m args below meth c g 9 (200 + (513 - n28) * 30) (4100 + (513 - n28) * 2100) Q0 28 [(0, .ref b0), (1, .ref (ts_ad g 154)), (2, .ref (ts_ad g 164)), (3, .ref (ts_ad g 175)), (4, .ref (ts_ad g 176)), (5, ts_v y5)] [] M) (y5 : Int) (M : ts_M), wL_law_B1294 L xs k28 Q y5 M → ts_V p l e room_1 s m args below meth c g 9 (200 + (513 - (n28 + 1)) * 30 + 1) (4100 + (513 - (n28 + 1)) * 2100 + 6) Q0 1294 [(0, .ref b0), (1, .ref (ts_ad g 154)), (2, .ref (ts_ad g 164)), (3, .ref (ts_ad g 175)), (4, .ref (ts_ad g 176)), (5, ts_v y5)] [] M := by
    intro n28 hn28 k28 hk28 y5 M
    unfold wL_law_B1294
    refine ts_goto C 2953 dL_law_1294 rfl ?_
    exact ts_wid (by omega) (by omega) (ts_sub [0, 1, 2, 3, 4, 5] rfl (H2953 n28 hn28 k28 hk28 _ _))
  have H1241 : ∀ (n28 : Nat) (hn28 : n28 + 1 ≤ 513) (k28 : Int → ts_M → Prop) (hk28 : ∀ (y5 : Int) (M : ts_M), k28 y5 M → ts_V p l e room_1 s m args below meth c g 9 (200 + (513 - n28) * 30) (4100 + (513 - n28) * 2100) Q0 28 [(0, .ref b0), (1, .ref (ts_ad g 154)), (2, .ref (ts_ad g 164)), (3, .ref (ts_ad g 175)), (4, .ref (ts_ad g 176)), (5, ts_v y5)] [] M) (y5 : Int) (M : ts_M), wL_law_B1241 L xs k28 Q y5 M → ts_V p l e room_1 s m args below meth c g 9 (200 + (513 - (n28 + 1)) * 30) (4100 + (513 - (n28 + 1)) * 2100) Q0 1241 [(0, .ref b0), (1, .ref (ts_ad g 154)), (2, .ref (ts_ad g 164)), (3, .ref (ts_ad g 175)), (4, .ref (ts_ad g 176)), (5, ts_v y5)] [] M := by
    intro n28 hn28 k28 hk28 y5 M
    unfold wL_law_B1241
    refine ts_aload_n C dL_law_1241 rfl 1 rfl ?_
    refine ts_aload_n C dL_law_1242 rfl 0 rfl ?_
    refine ts_iload C dL_law_1243 5 rfl ?_
    refine ts_iconst C dL_law_1245 1 rfl ?_
    refine ts_iadd C dL_law_1246 ?_
    refine ts_sld C hX0 hb0 hbA dL_law_1247 ?_
    refine ts_aload_n C dL_law_1248 rfl 3 rfl ?_
    refine ts_callW C [.ref (ts_ad g 154), ts_v (ts_xs xs (ts_w (y5 + 1))), .ref (ts_ad g 175)] (mL_proposalAt hl) kL_proposalAt q_1532 rfl rfl (Nat.le_of_ble_eq_true rfl) ⟨Nat.le_of_ble_eq_true rfl, Nat.le_of_ble_eq_true rfl⟩ ⟨by simp only [room_1]; omega, by simp only [room_1]; omega⟩ dL_law_1249 (fun r139 M138 => ?_)
    refine ts_istore C dL_law_1252 (by decide) (lv' := fun x140 => [(6, ts_v x140), (0, .ref b0), (1, .ref (ts_ad g 154)), (2, .ref (ts_ad g 164)), (3, .ref (ts_ad g 175)), (4, .ref (ts_ad g 176)), (5, ts_v y5)]) (fun _ => rfl) (fun x140 => ?_)
    refine ts_aload_n C dL_law_1254 rfl 3 rfl ?_
    refine ts_aload_n C dL_law_1255 rfl 1 rfl ?_
    refine ts_iload C dL_law_1256 6 rfl ?_
    refine ts_iconst C dL_law_1258 1 rfl ?_
    refine ts_iadd C dL_law_1259 ?_
    refine ts_sld C hX0 hb0 hbA dL_law_1260 ?_
    refine ts_callVi C [ts_v (ts_xs xs (ts_w (y5 + 1)))] (mX12_proposalAt hl) kX12_proposalAt q_2326 (by decide) shX12 rfl rfl rfl (Nat.le_of_ble_eq_true rfl) ⟨Nat.le_of_ble_eq_true rfl, Nat.le_of_ble_eq_true rfl⟩ ⟨by simp only [room_1]; omega, by simp only [room_1]; omega⟩ dL_law_1261 (fun r142 M141 => ?_)
    refine ts_istore C dL_law_1264 (by decide) (lv' := fun x143 => [(7, ts_v x143), (6, ts_v x140), (0, .ref b0), (1, .ref (ts_ad g 154)), (2, .ref (ts_ad g 164)), (3, .ref (ts_ad g 175)), (4, .ref (ts_ad g 176)), (5, ts_v y5)]) (fun _ => rfl) (fun x143 => ?_)
    refine ts_aload_n C dL_law_1266 rfl 4 rfl ?_
    refine ts_callVi C [] (mX12_thrown hl) kX12_thrown q_2022 (by decide) shX12 rfl rfl rfl (Nat.le_of_ble_eq_true rfl) ⟨Nat.le_of_ble_eq_true rfl, Nat.le_of_ble_eq_true rfl⟩ ⟨by simp only [room_1]; omega, by simp only [room_1]; omega⟩ dL_law_1267 (fun r145 M144 => ?_)
    refine ts_iload C dL_law_1270 1 rfl ?_
    refine ts_cmp_eq C rfl rfl 1277 dL_law_1272 rfl ?_ ?_
    · refine ts_iload C dL_law_1277 1 rfl ?_
      refine ts_cm0_ne C rfl 1294 dL_law_1279 rfl ?_ ?_
      · exact ts_sub [2, 3, 4, 5, 6, 7] rfl (H1294 n28 hn28 k28 hk28 _ _)
      · refine ts_aload_n C dL_law_1282 rfl 5 rfl ?_
        refine ts_iconst C dL_law_1283 0 rfl ?_
        refine ts_laldc C (by decide) shG175 tw_0 (by decide) dL_law_1284 ?_
        refine ts_iload C dL_law_1285 0 rfl ?_
        refine ts_i2l C dL_law_1287 ?_
        refine ts_lcmp C dL_law_1288 ?_
        refine ts_lif_eq C 1294 dL_law_1289 rfl ?_ ?_
        · exact ts_sub [2, 3, 4, 5, 6, 7] rfl (H1294 n28 hn28 k28 hk28 _ _)
        · refine ts_iconst C dL_law_1292 0 rfl ?_
          exact hret dL_law_1293 (by omega) (by omega)
    · refine ts_iconst C dL_law_1275 0 rfl ?_
      exact hret dL_law_1276 (by omega) (by omega)
  have H1350 : ∀ (n28 : Nat) (hn28 : n28 + 1 ≤ 513) (k28 : Int → ts_M → Prop) (hk28 : ∀ (y5 : Int) (M : ts_M), k28 y5 M → ts_V p l e room_1 s m args below meth c g 9 (200 + (513 - n28) * 30) (4100 + (513 - n28) * 2100) Q0 28 [(0, .ref b0), (1, .ref (ts_ad g 154)), (2, .ref (ts_ad g 164)), (3, .ref (ts_ad g 175)), (4, .ref (ts_ad g 176)), (5, ts_v y5)] [] M) (y5 : Int) (M : ts_M), wL_law_B1350 L xs k28 Q y5 M → ts_V p l e room_1 s m args below meth c g 9 (200 + (513 - (n28 + 1)) * 30 + 1) (4100 + (513 - (n28 + 1)) * 2100 + 6) Q0 1350 [(0, .ref b0), (1, .ref (ts_ad g 154)), (2, .ref (ts_ad g 164)), (3, .ref (ts_ad g 175)), (4, .ref (ts_ad g 176)), (5, ts_v y5)] [] M := by
    intro n28 hn28 k28 hk28 y5 M
    unfold wL_law_B1350
    refine ts_goto C 2953 dL_law_1350 rfl ?_
    exact ts_wid (by omega) (by omega) (ts_sub [0, 1, 2, 3, 4, 5] rfl (H2953 n28 hn28 k28 hk28 _ _))
  have H1297 : ∀ (n28 : Nat) (hn28 : n28 + 1 ≤ 513) (k28 : Int → ts_M → Prop) (hk28 : ∀ (y5 : Int) (M : ts_M), k28 y5 M → ts_V p l e room_1 s m args below meth c g 9 (200 + (513 - n28) * 30) (4100 + (513 - n28) * 2100) Q0 28 [(0, .ref b0), (1, .ref (ts_ad g 154)), (2, .ref (ts_ad g 164)), (3, .ref (ts_ad g 175)), (4, .ref (ts_ad g 176)), (5, ts_v y5)] [] M) (y5 : Int) (M : ts_M), wL_law_B1297 L xs k28 Q y5 M → ts_V p l e room_1 s m args below meth c g 9 (200 + (513 - (n28 + 1)) * 30) (4100 + (513 - (n28 + 1)) * 2100) Q0 1297 [(0, .ref b0), (1, .ref (ts_ad g 154)), (2, .ref (ts_ad g 164)), (3, .ref (ts_ad g 175)), (4, .ref (ts_ad g 176)), (5, ts_v y5)] [] M := by
    intro n28 hn28 k28 hk28 y5 M
    unfold wL_law_B1297
    refine ts_aload_n C dL_law_1297 rfl 1 rfl ?_
    refine ts_aload_n C dL_law_1298 rfl 0 rfl ?_
    refine ts_iload C dL_law_1299 5 rfl ?_
    refine ts_iconst C dL_law_1301 1 rfl ?_
    refine ts_iadd C dL_law_1302 ?_
    refine ts_sld C hX0 hb0 hbA dL_law_1303 ?_
    refine ts_aload_n C dL_law_1304 rfl 3 rfl ?_
    refine ts_callW C [.ref (ts_ad g 154), ts_v (ts_xs xs (ts_w (y5 + 1))), .ref (ts_ad g 175)] (mL_position hl) kL_position q_1544 rfl rfl (Nat.le_of_ble_eq_true rfl) ⟨Nat.le_of_ble_eq_true rfl, Nat.le_of_ble_eq_true rfl⟩ ⟨by simp only [room_1]; omega, by simp only [room_1]; omega⟩ dL_law_1305 (fun r147 M146 => ?_)
    refine ts_istore C dL_law_1308 (by decide) (lv' := fun x148 => [(6, ts_v x148), (0, .ref b0), (1, .ref (ts_ad g 154)), (2, .ref (ts_ad g 164)), (3, .ref (ts_ad g 175)), (4, .ref (ts_ad g 176)), (5, ts_v y5)]) (fun _ => rfl) (fun x148 => ?_)
    refine ts_aload_n C dL_law_1310 rfl 3 rfl ?_
    refine ts_aload_n C dL_law_1311 rfl 1 rfl ?_
    refine ts_iload C dL_law_1312 6 rfl ?_
    refine ts_iconst C dL_law_1314 1 rfl ?_
    refine ts_iadd C dL_law_1315 ?_
    refine ts_sld C hX0 hb0 hbA dL_law_1316 ?_
    refine ts_callVi C [ts_v (ts_xs xs (ts_w (y5 + 1)))] (mX12_position hl) kX12_position q_2330 (by decide) shX12 rfl rfl rfl (Nat.le_of_ble_eq_true rfl) ⟨Nat.le_of_ble_eq_true rfl, Nat.le_of_ble_eq_true rfl⟩ ⟨by simp only [room_1]; omega, by simp only [room_1]; omega⟩ dL_law_1317 (fun r150 M149 => ?_)
    refine ts_istore C dL_law_1320 (by decide) (lv' := fun x151 => [(7, ts_v x151), (6, ts_v x148), (0, .ref b0), (1, .ref (ts_ad g 154)), (2, .ref (ts_ad g 164)), (3, .ref (ts_ad g 175)), (4, .ref (ts_ad g 176)), (5, ts_v y5)]) (fun _ => rfl) (fun x151 => ?_)
    refine ts_aload_n C dL_law_1322 rfl 4 rfl ?_
    refine ts_callVi C [] (mX12_thrown hl) kX12_thrown q_2022 (by decide) shX12 rfl rfl rfl (Nat.le_of_ble_eq_true rfl) ⟨Nat.le_of_ble_eq_true rfl, Nat.le_of_ble_eq_true rfl⟩ ⟨by simp only [room_1]; omega, by simp only [room_1]; omega⟩ dL_law_1323 (fun r153 M152 => ?_)
    refine ts_iload C dL_law_1326 1 rfl ?_
    refine ts_cmp_eq C rfl rfl 1333 dL_law_1328 rfl ?_ ?_
    · refine ts_iload C dL_law_1333 1 rfl ?_
      refine ts_cm0_ne C rfl 1350 dL_law_1335 rfl ?_ ?_
      · exact ts_sub [2, 3, 4, 5, 6, 7] rfl (H1350 n28 hn28 k28 hk28 _ _)
      · refine ts_aload_n C dL_law_1338 rfl 5 rfl ?_
        refine ts_iconst C dL_law_1339 0 rfl ?_
        refine ts_laldc C (by decide) shG175 tw_0 (by decide) dL_law_1340 ?_
        refine ts_iload C dL_law_1341 0 rfl ?_
        refine ts_i2l C dL_law_1343 ?_
        refine ts_lcmp C dL_law_1344 ?_
        refine ts_lif_eq C 1350 dL_law_1345 rfl ?_ ?_
        · exact ts_sub [2, 3, 4, 5, 6, 7] rfl (H1350 n28 hn28 k28 hk28 _ _)
        · refine ts_iconst C dL_law_1348 0 rfl ?_
          exact hret dL_law_1349 (by omega) (by omega)
    · refine ts_iconst C dL_law_1331 0 rfl ?_
      exact hret dL_law_1332 (by omega) (by omega)
  have H1353 : ∀ (n28 : Nat) (hn28 : n28 + 1 ≤ 513) (k28 : Int → ts_M → Prop) (hk28 : ∀ (y5 : Int) (M : ts_M), k28 y5 M → ts_V p l e room_1 s m args below meth c g 9 (200 + (513 - n28) * 30) (4100 + (513 - n28) * 2100) Q0 28 [(0, .ref b0), (1, .ref (ts_ad g 154)), (2, .ref (ts_ad g 164)), (3, .ref (ts_ad g 175)), (4, .ref (ts_ad g 176)), (5, ts_v y5)] [] M) (y5 : Int) (M : ts_M), wL_law_B1353 L xs k28 Q y5 M → ts_V p l e room_1 s m args below meth c g 9 (200 + (513 - (n28 + 1)) * 30) (4100 + (513 - (n28 + 1)) * 2100) Q0 1353 [(0, .ref b0), (1, .ref (ts_ad g 154)), (2, .ref (ts_ad g 164)), (3, .ref (ts_ad g 175)), (4, .ref (ts_ad g 176)), (5, ts_v y5)] [] M := by
    intro n28 hn28 k28 hk28 y5 M
    unfold wL_law_B1353
    refine ts_aload_n C dL_law_1353 rfl 1 rfl ?_
    refine ts_callVi C [] (mX11_motionCount hl) kX11_motionCount q_467 (by decide) shX11 rfl rfl rfl (Nat.le_of_ble_eq_true rfl) ⟨Nat.le_of_ble_eq_true rfl, Nat.le_of_ble_eq_true rfl⟩ ⟨by simp only [room_1]; omega, by simp only [room_1]; omega⟩ dL_law_1354 (fun r155 M154 => ?_)
    refine ts_aload_n C dL_law_1357 rfl 2 rfl ?_
    refine ts_callVi C [] (mX12_motionCount hl) kX12_motionCount q_2334 (by decide) shX12 rfl rfl rfl (Nat.le_of_ble_eq_true rfl) ⟨Nat.le_of_ble_eq_true rfl, Nat.le_of_ble_eq_true rfl⟩ ⟨by simp only [room_1]; omega, by simp only [room_1]; omega⟩ dL_law_1358 (fun r157 M156 => ?_)
    refine ts_cmp_eq C rfl rfl 2953 dL_law_1361 rfl ?_ ?_
    · exact ts_wid (by omega) (by omega) (ts_sub [0, 1, 2, 3, 4, 5] rfl (H2953 n28 hn28 k28 hk28 _ _))
    · refine ts_iconst C dL_law_1364 0 rfl ?_
      exact hret dL_law_1365 (by omega) (by omega)
  have H1419 : ∀ (n28 : Nat) (hn28 : n28 + 1 ≤ 513) (k28 : Int → ts_M → Prop) (hk28 : ∀ (y5 : Int) (M : ts_M), k28 y5 M → ts_V p l e room_1 s m args below meth c g 9 (200 + (513 - n28) * 30) (4100 + (513 - n28) * 2100) Q0 28 [(0, .ref b0), (1, .ref (ts_ad g 154)), (2, .ref (ts_ad g 164)), (3, .ref (ts_ad g 175)), (4, .ref (ts_ad g 176)), (5, ts_v y5)] [] M) (y5 : Int) (M : ts_M), wL_law_B1419 L xs k28 Q y5 M → ts_V p l e room_1 s m args below meth c g 9 (200 + (513 - (n28 + 1)) * 30 + 1) (4100 + (513 - (n28 + 1)) * 2100 + 6) Q0 1419 [(0, .ref b0), (1, .ref (ts_ad g 154)), (2, .ref (ts_ad g 164)), (3, .ref (ts_ad g 175)), (4, .ref (ts_ad g 176)), (5, ts_v y5)] [] M := by
    intro n28 hn28 k28 hk28 y5 M
    unfold wL_law_B1419
    refine ts_goto C 2953 dL_law_1419 rfl ?_
    exact ts_wid (by omega) (by omega) (ts_sub [0, 1, 2, 3, 4, 5] rfl (H2953 n28 hn28 k28 hk28 _ _))
  have H1366 : ∀ (n28 : Nat) (hn28 : n28 + 1 ≤ 513) (k28 : Int → ts_M → Prop) (hk28 : ∀ (y5 : Int) (M : ts_M), k28 y5 M → ts_V p l e room_1 s m args below meth c g 9 (200 + (513 - n28) * 30) (4100 + (513 - n28) * 2100) Q0 28 [(0, .ref b0), (1, .ref (ts_ad g 154)), (2, .ref (ts_ad g 164)), (3, .ref (ts_ad g 175)), (4, .ref (ts_ad g 176)), (5, ts_v y5)] [] M) (y5 : Int) (M : ts_M), wL_law_B1366 L xs k28 Q y5 M → ts_V p l e room_1 s m args below meth c g 9 (200 + (513 - (n28 + 1)) * 30) (4100 + (513 - (n28 + 1)) * 2100) Q0 1366 [(0, .ref b0), (1, .ref (ts_ad g 154)), (2, .ref (ts_ad g 164)), (3, .ref (ts_ad g 175)), (4, .ref (ts_ad g 176)), (5, ts_v y5)] [] M := by
    intro n28 hn28 k28 hk28 y5 M
    unfold wL_law_B1366
    refine ts_aload_n C dL_law_1366 rfl 1 rfl ?_
    refine ts_aload_n C dL_law_1367 rfl 0 rfl ?_
    refine ts_iload C dL_law_1368 5 rfl ?_
    refine ts_iconst C dL_law_1370 1 rfl ?_
    refine ts_iadd C dL_law_1371 ?_
    refine ts_sld C hX0 hb0 hbA dL_law_1372 ?_
    refine ts_aload_n C dL_law_1373 rfl 3 rfl ?_
    refine ts_callW C [.ref (ts_ad g 154), ts_v (ts_xs xs (ts_w (y5 + 1))), .ref (ts_ad g 175)] (mL_motionKind hl) kL_motionKind q_1558 rfl rfl (Nat.le_of_ble_eq_true rfl) ⟨Nat.le_of_ble_eq_true rfl, Nat.le_of_ble_eq_true rfl⟩ ⟨by simp only [room_1]; omega, by simp only [room_1]; omega⟩ dL_law_1374 (fun r159 M158 => ?_)
    refine ts_istore C dL_law_1377 (by decide) (lv' := fun x160 => [(6, ts_v x160), (0, .ref b0), (1, .ref (ts_ad g 154)), (2, .ref (ts_ad g 164)), (3, .ref (ts_ad g 175)), (4, .ref (ts_ad g 176)), (5, ts_v y5)]) (fun _ => rfl) (fun x160 => ?_)
    refine ts_aload_n C dL_law_1379 rfl 3 rfl ?_
    refine ts_aload_n C dL_law_1380 rfl 1 rfl ?_
    refine ts_iload C dL_law_1381 6 rfl ?_
    refine ts_iconst C dL_law_1383 1 rfl ?_
    refine ts_iadd C dL_law_1384 ?_
    refine ts_sld C hX0 hb0 hbA dL_law_1385 ?_
    refine ts_callVi C [ts_v (ts_xs xs (ts_w (y5 + 1)))] (mX12_motionKind hl) kX12_motionKind q_2338 (by decide) shX12 rfl rfl rfl (Nat.le_of_ble_eq_true rfl) ⟨Nat.le_of_ble_eq_true rfl, Nat.le_of_ble_eq_true rfl⟩ ⟨by simp only [room_1]; omega, by simp only [room_1]; omega⟩ dL_law_1386 (fun r162 M161 => ?_)
    refine ts_istore C dL_law_1389 (by decide) (lv' := fun x163 => [(7, ts_v x163), (6, ts_v x160), (0, .ref b0), (1, .ref (ts_ad g 154)), (2, .ref (ts_ad g 164)), (3, .ref (ts_ad g 175)), (4, .ref (ts_ad g 176)), (5, ts_v y5)]) (fun _ => rfl) (fun x163 => ?_)
    refine ts_aload_n C dL_law_1391 rfl 4 rfl ?_
    refine ts_callVi C [] (mX12_thrown hl) kX12_thrown q_2022 (by decide) shX12 rfl rfl rfl (Nat.le_of_ble_eq_true rfl) ⟨Nat.le_of_ble_eq_true rfl, Nat.le_of_ble_eq_true rfl⟩ ⟨by simp only [room_1]; omega, by simp only [room_1]; omega⟩ dL_law_1392 (fun r165 M164 => ?_)
    refine ts_iload C dL_law_1395 1 rfl ?_
    refine ts_cmp_eq C rfl rfl 1402 dL_law_1397 rfl ?_ ?_
    · refine ts_iload C dL_law_1402 1 rfl ?_
      refine ts_cm0_ne C rfl 1419 dL_law_1404 rfl ?_ ?_
      · exact ts_sub [2, 3, 4, 5, 6, 7] rfl (H1419 n28 hn28 k28 hk28 _ _)
      · refine ts_aload_n C dL_law_1407 rfl 5 rfl ?_
        refine ts_iconst C dL_law_1408 0 rfl ?_
        refine ts_laldc C (by decide) shG175 tw_0 (by decide) dL_law_1409 ?_
        refine ts_iload C dL_law_1410 0 rfl ?_
        refine ts_i2l C dL_law_1412 ?_
        refine ts_lcmp C dL_law_1413 ?_
        refine ts_lif_eq C 1419 dL_law_1414 rfl ?_ ?_
        · exact ts_sub [2, 3, 4, 5, 6, 7] rfl (H1419 n28 hn28 k28 hk28 _ _)
        · refine ts_iconst C dL_law_1417 0 rfl ?_
          exact hret dL_law_1418 (by omega) (by omega)
    · refine ts_iconst C dL_law_1400 0 rfl ?_
      exact hret dL_law_1401 (by omega) (by omega)
  have H1463 : ∀ (n28 : Nat) (hn28 : n28 + 1 ≤ 513) (k28 : Int → ts_M → Prop) (hk28 : ∀ (y5 : Int) (M : ts_M), k28 y5 M → ts_V p l e room_1 s m args below meth c g 9 (200 + (513 - n28) * 30) (4100 + (513 - n28) * 2100) Q0 28 [(0, .ref b0), (1, .ref (ts_ad g 154)), (2, .ref (ts_ad g 164)), (3, .ref (ts_ad g 175)), (4, .ref (ts_ad g 176)), (5, ts_v y5)] [] M) (y5 : Int) (M : ts_M), wL_law_B1463 L xs k28 Q y5 M → ts_V p l e room_1 s m args below meth c g 9 (200 + (513 - (n28 + 1)) * 30 + 1) (4100 + (513 - (n28 + 1)) * 2100 + 6) Q0 1463 [(0, .ref b0), (1, .ref (ts_ad g 154)), (2, .ref (ts_ad g 164)), (3, .ref (ts_ad g 175)), (4, .ref (ts_ad g 176)), (5, ts_v y5)] [] M := by
    intro n28 hn28 k28 hk28 y5 M
    unfold wL_law_B1463
    refine ts_goto C 2953 dL_law_1463 rfl ?_
    exact ts_wid (by omega) (by omega) (ts_sub [0, 1, 2, 3, 4, 5] rfl (H2953 n28 hn28 k28 hk28 _ _))
  have H1422 : ∀ (n28 : Nat) (hn28 : n28 + 1 ≤ 513) (k28 : Int → ts_M → Prop) (hk28 : ∀ (y5 : Int) (M : ts_M), k28 y5 M → ts_V p l e room_1 s m args below meth c g 9 (200 + (513 - n28) * 30) (4100 + (513 - n28) * 2100) Q0 28 [(0, .ref b0), (1, .ref (ts_ad g 154)), (2, .ref (ts_ad g 164)), (3, .ref (ts_ad g 175)), (4, .ref (ts_ad g 176)), (5, ts_v y5)] [] M) (y5 : Int) (M : ts_M), wL_law_B1422 L xs k28 Q y5 M → ts_V p l e room_1 s m args below meth c g 9 (200 + (513 - (n28 + 1)) * 30) (4100 + (513 - (n28 + 1)) * 2100) Q0 1422 [(0, .ref b0), (1, .ref (ts_ad g 154)), (2, .ref (ts_ad g 164)), (3, .ref (ts_ad g 175)), (4, .ref (ts_ad g 176)), (5, ts_v y5)] [] M := by
    intro n28 hn28 k28 hk28 y5 M
    unfold wL_law_B1422
    refine ts_aload_n C dL_law_1422 rfl 1 rfl ?_
    refine ts_aload_n C dL_law_1423 rfl 3 rfl ?_
    refine ts_callW C [.ref (ts_ad g 154), .ref (ts_ad g 175)] (mL_amendment hl) kL_amendment q_1566 rfl rfl (Nat.le_of_ble_eq_true rfl) ⟨Nat.le_of_ble_eq_true rfl, Nat.le_of_ble_eq_true rfl⟩ ⟨by simp only [room_1]; omega, by simp only [room_1]; omega⟩ dL_law_1424 (fun r167 M166 => ?_)
    refine ts_istore C dL_law_1427 (by decide) (lv' := fun x168 => [(6, ts_v x168), (0, .ref b0), (1, .ref (ts_ad g 154)), (2, .ref (ts_ad g 164)), (3, .ref (ts_ad g 175)), (4, .ref (ts_ad g 176)), (5, ts_v y5)]) (fun _ => rfl) (fun x168 => ?_)
    refine ts_aload_n C dL_law_1429 rfl 3 rfl ?_
    refine ts_callVi C [] (mX12_amendment hl) kX12_amendment q_2345 (by decide) shX12 rfl rfl rfl (Nat.le_of_ble_eq_true rfl) ⟨Nat.le_of_ble_eq_true rfl, Nat.le_of_ble_eq_true rfl⟩ ⟨by simp only [room_1]; omega, by simp only [room_1]; omega⟩ dL_law_1430 (fun r170 M169 => ?_)
    refine ts_istore C dL_law_1433 (by decide) (lv' := fun x171 => [(7, ts_v x171), (6, ts_v x168), (0, .ref b0), (1, .ref (ts_ad g 154)), (2, .ref (ts_ad g 164)), (3, .ref (ts_ad g 175)), (4, .ref (ts_ad g 176)), (5, ts_v y5)]) (fun _ => rfl) (fun x171 => ?_)
    refine ts_aload_n C dL_law_1435 rfl 4 rfl ?_
    refine ts_callVi C [] (mX12_thrown hl) kX12_thrown q_2022 (by decide) shX12 rfl rfl rfl (Nat.le_of_ble_eq_true rfl) ⟨Nat.le_of_ble_eq_true rfl, Nat.le_of_ble_eq_true rfl⟩ ⟨by simp only [room_1]; omega, by simp only [room_1]; omega⟩ dL_law_1436 (fun r173 M172 => ?_)
    refine ts_iload C dL_law_1439 1 rfl ?_
    refine ts_cmp_eq C rfl rfl 1446 dL_law_1441 rfl ?_ ?_
    · refine ts_iload C dL_law_1446 1 rfl ?_
      refine ts_cm0_ne C rfl 1463 dL_law_1448 rfl ?_ ?_
      · exact ts_sub [2, 3, 4, 5, 6, 7] rfl (H1463 n28 hn28 k28 hk28 _ _)
      · refine ts_aload_n C dL_law_1451 rfl 5 rfl ?_
        refine ts_iconst C dL_law_1452 0 rfl ?_
        refine ts_laldc C (by decide) shG175 tw_0 (by decide) dL_law_1453 ?_
        refine ts_iload C dL_law_1454 0 rfl ?_
        refine ts_i2l C dL_law_1456 ?_
        refine ts_lcmp C dL_law_1457 ?_
        refine ts_lif_eq C 1463 dL_law_1458 rfl ?_ ?_
        · exact ts_sub [2, 3, 4, 5, 6, 7] rfl (H1463 n28 hn28 k28 hk28 _ _)
        · refine ts_iconst C dL_law_1461 0 rfl ?_
          exact hret dL_law_1462 (by omega) (by omega)
    · refine ts_iconst C dL_law_1444 0 rfl ?_
      exact hret dL_law_1445 (by omega) (by omega)
  have H1507 : ∀ (n28 : Nat) (hn28 : n28 + 1 ≤ 513) (k28 : Int → ts_M → Prop) (hk28 : ∀ (y5 : Int) (M : ts_M), k28 y5 M → ts_V p l e room_1 s m args below meth c g 9 (200 + (513 - n28) * 30) (4100 + (513 - n28) * 2100) Q0 28 [(0, .ref b0), (1, .ref (ts_ad g 154)), (2, .ref (ts_ad g 164)), (3, .ref (ts_ad g 175)), (4, .ref (ts_ad g 176)), (5, ts_v y5)] [] M) (y5 : Int) (M : ts_M), wL_law_B1507 L xs k28 Q y5 M → ts_V p l e room_1 s m args below meth c g 9 (200 + (513 - (n28 + 1)) * 30 + 1) (4100 + (513 - (n28 + 1)) * 2100 + 6) Q0 1507 [(0, .ref b0), (1, .ref (ts_ad g 154)), (2, .ref (ts_ad g 164)), (3, .ref (ts_ad g 175)), (4, .ref (ts_ad g 176)), (5, ts_v y5)] [] M := by
    intro n28 hn28 k28 hk28 y5 M
    unfold wL_law_B1507
    refine ts_goto C 2953 dL_law_1507 rfl ?_
    exact ts_wid (by omega) (by omega) (ts_sub [0, 1, 2, 3, 4, 5] rfl (H2953 n28 hn28 k28 hk28 _ _))
  have H1466 : ∀ (n28 : Nat) (hn28 : n28 + 1 ≤ 513) (k28 : Int → ts_M → Prop) (hk28 : ∀ (y5 : Int) (M : ts_M), k28 y5 M → ts_V p l e room_1 s m args below meth c g 9 (200 + (513 - n28) * 30) (4100 + (513 - n28) * 2100) Q0 28 [(0, .ref b0), (1, .ref (ts_ad g 154)), (2, .ref (ts_ad g 164)), (3, .ref (ts_ad g 175)), (4, .ref (ts_ad g 176)), (5, ts_v y5)] [] M) (y5 : Int) (M : ts_M), wL_law_B1466 L xs k28 Q y5 M → ts_V p l e room_1 s m args below meth c g 9 (200 + (513 - (n28 + 1)) * 30) (4100 + (513 - (n28 + 1)) * 2100) Q0 1466 [(0, .ref b0), (1, .ref (ts_ad g 154)), (2, .ref (ts_ad g 164)), (3, .ref (ts_ad g 175)), (4, .ref (ts_ad g 176)), (5, ts_v y5)] [] M := by
    intro n28 hn28 k28 hk28 y5 M
    unfold wL_law_B1466
    refine ts_aload_n C dL_law_1466 rfl 1 rfl ?_
    refine ts_aload_n C dL_law_1467 rfl 3 rfl ?_
    refine ts_callW C [.ref (ts_ad g 154), .ref (ts_ad g 175)] (mL_mainProposal hl) kL_mainProposal q_1578 rfl rfl (Nat.le_of_ble_eq_true rfl) ⟨Nat.le_of_ble_eq_true rfl, Nat.le_of_ble_eq_true rfl⟩ ⟨by simp only [room_1]; omega, by simp only [room_1]; omega⟩ dL_law_1468 (fun r175 M174 => ?_)
    refine ts_istore C dL_law_1471 (by decide) (lv' := fun x176 => [(6, ts_v x176), (0, .ref b0), (1, .ref (ts_ad g 154)), (2, .ref (ts_ad g 164)), (3, .ref (ts_ad g 175)), (4, .ref (ts_ad g 176)), (5, ts_v y5)]) (fun _ => rfl) (fun x176 => ?_)
    refine ts_aload_n C dL_law_1473 rfl 3 rfl ?_
    refine ts_callVi C [] (mX12_mainProposal hl) kX12_mainProposal q_2353 (by decide) shX12 rfl rfl rfl (Nat.le_of_ble_eq_true rfl) ⟨Nat.le_of_ble_eq_true rfl, Nat.le_of_ble_eq_true rfl⟩ ⟨by simp only [room_1]; omega, by simp only [room_1]; omega⟩ dL_law_1474 (fun r178 M177 => ?_)
    refine ts_istore C dL_law_1477 (by decide) (lv' := fun x179 => [(7, ts_v x179), (6, ts_v x176), (0, .ref b0), (1, .ref (ts_ad g 154)), (2, .ref (ts_ad g 164)), (3, .ref (ts_ad g 175)), (4, .ref (ts_ad g 176)), (5, ts_v y5)]) (fun _ => rfl) (fun x179 => ?_)
    refine ts_aload_n C dL_law_1479 rfl 4 rfl ?_
    refine ts_callVi C [] (mX12_thrown hl) kX12_thrown q_2022 (by decide) shX12 rfl rfl rfl (Nat.le_of_ble_eq_true rfl) ⟨Nat.le_of_ble_eq_true rfl, Nat.le_of_ble_eq_true rfl⟩ ⟨by simp only [room_1]; omega, by simp only [room_1]; omega⟩ dL_law_1480 (fun r181 M180 => ?_)
    refine ts_iload C dL_law_1483 1 rfl ?_
    refine ts_cmp_eq C rfl rfl 1490 dL_law_1485 rfl ?_ ?_
    · refine ts_iload C dL_law_1490 1 rfl ?_
      refine ts_cm0_ne C rfl 1507 dL_law_1492 rfl ?_ ?_
      · exact ts_sub [2, 3, 4, 5, 6, 7] rfl (H1507 n28 hn28 k28 hk28 _ _)
      · refine ts_aload_n C dL_law_1495 rfl 5 rfl ?_
        refine ts_iconst C dL_law_1496 0 rfl ?_
        refine ts_laldc C (by decide) shG175 tw_0 (by decide) dL_law_1497 ?_
        refine ts_iload C dL_law_1498 0 rfl ?_
        refine ts_i2l C dL_law_1500 ?_
        refine ts_lcmp C dL_law_1501 ?_
        refine ts_lif_eq C 1507 dL_law_1502 rfl ?_ ?_
        · exact ts_sub [2, 3, 4, 5, 6, 7] rfl (H1507 n28 hn28 k28 hk28 _ _)
        · refine ts_iconst C dL_law_1505 0 rfl ?_
          exact hret dL_law_1506 (by omega) (by omega)
    · refine ts_iconst C dL_law_1488 0 rfl ?_
      exact hret dL_law_1489 (by omega) (by omega)
  have H1510 : ∀ (n28 : Nat) (hn28 : n28 + 1 ≤ 513) (k28 : Int → ts_M → Prop) (hk28 : ∀ (y5 : Int) (M : ts_M), k28 y5 M → ts_V p l e room_1 s m args below meth c g 9 (200 + (513 - n28) * 30) (4100 + (513 - n28) * 2100) Q0 28 [(0, .ref b0), (1, .ref (ts_ad g 154)), (2, .ref (ts_ad g 164)), (3, .ref (ts_ad g 175)), (4, .ref (ts_ad g 176)), (5, ts_v y5)] [] M) (y5 : Int) (M : ts_M), wL_law_B1510 L xs k28 Q y5 M → ts_V p l e room_1 s m args below meth c g 9 (200 + (513 - (n28 + 1)) * 30) (4100 + (513 - (n28 + 1)) * 2100) Q0 1510 [(0, .ref b0), (1, .ref (ts_ad g 154)), (2, .ref (ts_ad g 164)), (3, .ref (ts_ad g 175)), (4, .ref (ts_ad g 176)), (5, ts_v y5)] [] M := by
    intro n28 hn28 k28 hk28 y5 M
    unfold wL_law_B1510
    refine ts_aload_n C dL_law_1510 rfl 1 rfl ?_
    refine ts_callVi C [] (mX11_isClosed hl) kX11_isClosed q_471 (by decide) shX11 rfl rfl rfl (Nat.le_of_ble_eq_true rfl) ⟨Nat.le_of_ble_eq_true rfl, Nat.le_of_ble_eq_true rfl⟩ ⟨by simp only [room_1]; omega, by simp only [room_1]; omega⟩ dL_law_1511 (fun r183 M182 => ?_)
    refine ts_aload_n C dL_law_1514 rfl 2 rfl ?_
    refine ts_callVi C [] (mX12_isClosed hl) kX12_isClosed q_2357 (by decide) shX12 rfl rfl rfl (Nat.le_of_ble_eq_true rfl) ⟨Nat.le_of_ble_eq_true rfl, Nat.le_of_ble_eq_true rfl⟩ ⟨by simp only [room_1]; omega, by simp only [room_1]; omega⟩ dL_law_1515 (fun r185 M184 => ?_)
    refine ts_cmp_eq C rfl rfl 2953 dL_law_1518 rfl ?_ ?_
    · exact ts_wid (by omega) (by omega) (ts_sub [0, 1, 2, 3, 4, 5] rfl (H2953 n28 hn28 k28 hk28 _ _))
    · refine ts_iconst C dL_law_1521 0 rfl ?_
      exact hret dL_law_1522 (by omega) (by omega)
  have H1585 : ∀ (n28 : Nat) (hn28 : n28 + 1 ≤ 513) (k28 : Int → ts_M → Prop) (hk28 : ∀ (y5 : Int) (M : ts_M), k28 y5 M → ts_V p l e room_1 s m args below meth c g 9 (200 + (513 - n28) * 30) (4100 + (513 - n28) * 2100) Q0 28 [(0, .ref b0), (1, .ref (ts_ad g 154)), (2, .ref (ts_ad g 164)), (3, .ref (ts_ad g 175)), (4, .ref (ts_ad g 176)), (5, ts_v y5)] [] M) (y5 : Int) (M : ts_M), wL_law_B1585 L xs k28 Q y5 M → ts_V p l e room_1 s m args below meth c g 9 (200 + (513 - (n28 + 1)) * 30 + 1) (4100 + (513 - (n28 + 1)) * 2100 + 6) Q0 1585 [(0, .ref b0), (1, .ref (ts_ad g 154)), (2, .ref (ts_ad g 164)), (3, .ref (ts_ad g 175)), (4, .ref (ts_ad g 176)), (5, ts_v y5)] [] M := by
    intro n28 hn28 k28 hk28 y5 M
    unfold wL_law_B1585
    refine ts_goto C 2953 dL_law_1585 rfl ?_
    exact ts_wid (by omega) (by omega) (ts_sub [0, 1, 2, 3, 4, 5] rfl (H2953 n28 hn28 k28 hk28 _ _))
  have H1579 : ∀ (n28 : Nat) (hn28 : n28 + 1 ≤ 513) (k28 : Int → ts_M → Prop) (hk28 : ∀ (y5 : Int) (M : ts_M), k28 y5 M → ts_V p l e room_1 s m args below meth c g 9 (200 + (513 - n28) * 30) (4100 + (513 - n28) * 2100) Q0 28 [(0, .ref b0), (1, .ref (ts_ad g 154)), (2, .ref (ts_ad g 164)), (3, .ref (ts_ad g 175)), (4, .ref (ts_ad g 176)), (5, ts_v y5)] [] M) (y5 : Int) (z0 : Int64) (z1 : Int64) (M : ts_M), wL_law_B1579 L xs k28 Q y5 z0 z1 M → ts_V p l e room_1 s m args below meth c g 9 (200 + (513 - (n28 + 1)) * 30 + 1) (4100 + (513 - (n28 + 1)) * 2100 + 6) Q0 1579 [(0, .ref b0), (1, .ref (ts_ad g 154)), (2, .ref (ts_ad g 164)), (3, .ref (ts_ad g 175)), (4, .ref (ts_ad g 176)), (5, ts_v y5)] [.long z0, .long z1] M := by
    intro n28 hn28 k28 hk28 y5 z0 z1 M
    unfold wL_law_B1579
    refine ts_lcmp C dL_law_1579 ?_
    refine ts_lif_eq C 1585 dL_law_1580 rfl ?_ ?_
    · exact ts_sub [0, 1, 2, 3, 4, 5] rfl (H1585 n28 hn28 k28 hk28 _ _)
    · refine ts_iconst C dL_law_1583 0 rfl ?_
      exact hret dL_law_1584 (by omega) (by omega)
  have H1523 : ∀ (n28 : Nat) (hn28 : n28 + 1 ≤ 513) (k28 : Int → ts_M → Prop) (hk28 : ∀ (y5 : Int) (M : ts_M), k28 y5 M → ts_V p l e room_1 s m args below meth c g 9 (200 + (513 - n28) * 30) (4100 + (513 - n28) * 2100) Q0 28 [(0, .ref b0), (1, .ref (ts_ad g 154)), (2, .ref (ts_ad g 164)), (3, .ref (ts_ad g 175)), (4, .ref (ts_ad g 176)), (5, ts_v y5)] [] M) (y5 : Int) (M : ts_M), wL_law_B1523 L xs k28 Q y5 M → ts_V p l e room_1 s m args below meth c g 9 (200 + (513 - (n28 + 1)) * 30) (4100 + (513 - (n28 + 1)) * 2100) Q0 1523 [(0, .ref b0), (1, .ref (ts_ad g 154)), (2, .ref (ts_ad g 164)), (3, .ref (ts_ad g 175)), (4, .ref (ts_ad g 176)), (5, ts_v y5)] [] M := by
    intro n28 hn28 k28 hk28 y5 M
    unfold wL_law_B1523
    refine ts_aload_n C dL_law_1523 rfl 1 rfl ?_
    refine ts_aload_n C dL_law_1524 rfl 0 rfl ?_
    refine ts_iload C dL_law_1525 5 rfl ?_
    refine ts_iconst C dL_law_1527 1 rfl ?_
    refine ts_iadd C dL_law_1528 ?_
    refine ts_sld C hX0 hb0 hbA dL_law_1529 ?_
    refine ts_i2c0 C dL_law_1530 ?_
    refine ts_aload_n C dL_law_1531 rfl 3 rfl ?_
    refine ts_callW C [.ref (ts_ad g 154), ts_v (ts_i2c (ts_xs xs (ts_w (y5 + 1)))), .ref (ts_ad g 175)] (mL_canMove hl) kL_canMove q_1586 rfl rfl (Nat.le_of_ble_eq_true rfl) ⟨Nat.le_of_ble_eq_true rfl, Nat.le_of_ble_eq_true rfl⟩ ⟨by simp only [room_1]; omega, by simp only [room_1]; omega⟩ dL_law_1532 (fun r187 M186 => ?_)
    refine ts_istore C dL_law_1535 (by decide) (lv' := fun x188 => [(6, ts_v x188), (0, .ref b0), (1, .ref (ts_ad g 154)), (2, .ref (ts_ad g 164)), (3, .ref (ts_ad g 175)), (4, .ref (ts_ad g 176)), (5, ts_v y5)]) (fun _ => rfl) (fun x188 => ?_)
    refine ts_aload_n C dL_law_1537 rfl 3 rfl ?_
    refine ts_aload_n C dL_law_1538 rfl 1 rfl ?_
    refine ts_iload C dL_law_1539 6 rfl ?_
    refine ts_iconst C dL_law_1541 1 rfl ?_
    refine ts_iadd C dL_law_1542 ?_
    refine ts_sld C hX0 hb0 hbA dL_law_1543 ?_
    refine ts_i2c0 C dL_law_1544 ?_
    refine ts_callVi C [ts_v (ts_i2c (ts_xs xs (ts_w (y5 + 1))))] (mX12_canMove hl) kX12_canMove q_2361 (by decide) shX12 rfl rfl rfl (Nat.le_of_ble_eq_true rfl) ⟨Nat.le_of_ble_eq_true rfl, Nat.le_of_ble_eq_true rfl⟩ ⟨by simp only [room_1]; omega, by simp only [room_1]; omega⟩ dL_law_1545 (fun r190 M189 => ?_)
    refine ts_istore C dL_law_1548 (by decide) (lv' := fun x191 => [(7, ts_v x191), (6, ts_v x188), (0, .ref b0), (1, .ref (ts_ad g 154)), (2, .ref (ts_ad g 164)), (3, .ref (ts_ad g 175)), (4, .ref (ts_ad g 176)), (5, ts_v y5)]) (fun _ => rfl) (fun x191 => ?_)
    refine ts_aload_n C dL_law_1550 rfl 4 rfl ?_
    refine ts_callVi C [] (mX12_thrown hl) kX12_thrown q_2022 (by decide) shX12 rfl rfl rfl (Nat.le_of_ble_eq_true rfl) ⟨Nat.le_of_ble_eq_true rfl, Nat.le_of_ble_eq_true rfl⟩ ⟨by simp only [room_1]; omega, by simp only [room_1]; omega⟩ dL_law_1551 (fun r193 M192 => ?_)
    refine ts_iload C dL_law_1554 1 rfl ?_
    refine ts_cmp_eq C rfl rfl 1561 dL_law_1556 rfl ?_ ?_
    · refine ts_iload C dL_law_1561 1 rfl ?_
      refine ts_cm0_ne C rfl 1585 dL_law_1563 rfl ?_ ?_
      · exact ts_sub [2, 3, 4, 5, 6, 7] rfl (H1585 n28 hn28 k28 hk28 _ _)
      · refine ts_aload_n C dL_law_1566 rfl 5 rfl ?_
        refine ts_iconst C dL_law_1567 0 rfl ?_
        refine ts_laldc C (by decide) shG175 tw_0 (by decide) dL_law_1568 ?_
        refine ts_iload C dL_law_1569 0 rfl ?_
        refine ts_cm0_eq C rfl 1578 dL_law_1571 rfl ?_ ?_
        · refine ts_lconst C dL_law_1578 0 rfl ?_
          exact ts_sub [2, 3, 4, 5, 6, 7] rfl (H1579 n28 hn28 k28 hk28 _ _ _ _)
        · refine ts_lconst C dL_law_1574 1 rfl ?_
          refine ts_goto C 1579 dL_law_1575 rfl ?_
          exact ts_sub [2, 3, 4, 5, 6, 7] rfl (H1579 n28 hn28 k28 hk28 _ _ _ _)
    · refine ts_iconst C dL_law_1559 0 rfl ?_
      exact hret dL_law_1560 (by omega) (by omega)
  have H1629 : ∀ (n28 : Nat) (hn28 : n28 + 1 ≤ 513) (k28 : Int → ts_M → Prop) (hk28 : ∀ (y5 : Int) (M : ts_M), k28 y5 M → ts_V p l e room_1 s m args below meth c g 9 (200 + (513 - n28) * 30) (4100 + (513 - n28) * 2100) Q0 28 [(0, .ref b0), (1, .ref (ts_ad g 154)), (2, .ref (ts_ad g 164)), (3, .ref (ts_ad g 175)), (4, .ref (ts_ad g 176)), (5, ts_v y5)] [] M) (y5 : Int) (M : ts_M), wL_law_B1629 L xs k28 Q y5 M → ts_V p l e room_1 s m args below meth c g 9 (200 + (513 - (n28 + 1)) * 30 + 1) (4100 + (513 - (n28 + 1)) * 2100 + 6) Q0 1629 [(0, .ref b0), (1, .ref (ts_ad g 154)), (2, .ref (ts_ad g 164)), (3, .ref (ts_ad g 175)), (4, .ref (ts_ad g 176)), (5, ts_v y5)] [] M := by
    intro n28 hn28 k28 hk28 y5 M
    unfold wL_law_B1629
    refine ts_goto C 2953 dL_law_1629 rfl ?_
    exact ts_wid (by omega) (by omega) (ts_sub [0, 1, 2, 3, 4, 5] rfl (H2953 n28 hn28 k28 hk28 _ _))
  have H1588 : ∀ (n28 : Nat) (hn28 : n28 + 1 ≤ 513) (k28 : Int → ts_M → Prop) (hk28 : ∀ (y5 : Int) (M : ts_M), k28 y5 M → ts_V p l e room_1 s m args below meth c g 9 (200 + (513 - n28) * 30) (4100 + (513 - n28) * 2100) Q0 28 [(0, .ref b0), (1, .ref (ts_ad g 154)), (2, .ref (ts_ad g 164)), (3, .ref (ts_ad g 175)), (4, .ref (ts_ad g 176)), (5, ts_v y5)] [] M) (y5 : Int) (M : ts_M), wL_law_B1588 L xs k28 Q y5 M → ts_V p l e room_1 s m args below meth c g 9 (200 + (513 - (n28 + 1)) * 30) (4100 + (513 - (n28 + 1)) * 2100) Q0 1588 [(0, .ref b0), (1, .ref (ts_ad g 154)), (2, .ref (ts_ad g 164)), (3, .ref (ts_ad g 175)), (4, .ref (ts_ad g 176)), (5, ts_v y5)] [] M := by
    intro n28 hn28 k28 hk28 y5 M
    unfold wL_law_B1588
    refine ts_aload_n C dL_law_1588 rfl 1 rfl ?_
    refine ts_aload_n C dL_law_1589 rfl 3 rfl ?_
    refine ts_callW C [.ref (ts_ad g 154), .ref (ts_ad g 175)] (mL_yesVotes hl) kL_yesVotes q_1642 rfl rfl (Nat.le_of_ble_eq_true rfl) ⟨Nat.le_of_ble_eq_true rfl, Nat.le_of_ble_eq_true rfl⟩ ⟨by simp only [room_1]; omega, by simp only [room_1]; omega⟩ dL_law_1590 (fun r195 M194 => ?_)
    refine ts_istore C dL_law_1593 (by decide) (lv' := fun x196 => [(6, ts_v x196), (0, .ref b0), (1, .ref (ts_ad g 154)), (2, .ref (ts_ad g 164)), (3, .ref (ts_ad g 175)), (4, .ref (ts_ad g 176)), (5, ts_v y5)]) (fun _ => rfl) (fun x196 => ?_)
    refine ts_aload_n C dL_law_1595 rfl 3 rfl ?_
    refine ts_callVi C [] (mX12_yesVotes hl) kX12_yesVotes q_2365 (by decide) shX12 rfl rfl rfl (Nat.le_of_ble_eq_true rfl) ⟨Nat.le_of_ble_eq_true rfl, Nat.le_of_ble_eq_true rfl⟩ ⟨by simp only [room_1]; omega, by simp only [room_1]; omega⟩ dL_law_1596 (fun r198 M197 => ?_)
    refine ts_istore C dL_law_1599 (by decide) (lv' := fun x199 => [(7, ts_v x199), (6, ts_v x196), (0, .ref b0), (1, .ref (ts_ad g 154)), (2, .ref (ts_ad g 164)), (3, .ref (ts_ad g 175)), (4, .ref (ts_ad g 176)), (5, ts_v y5)]) (fun _ => rfl) (fun x199 => ?_)
    refine ts_aload_n C dL_law_1601 rfl 4 rfl ?_
    refine ts_callVi C [] (mX12_thrown hl) kX12_thrown q_2022 (by decide) shX12 rfl rfl rfl (Nat.le_of_ble_eq_true rfl) ⟨Nat.le_of_ble_eq_true rfl, Nat.le_of_ble_eq_true rfl⟩ ⟨by simp only [room_1]; omega, by simp only [room_1]; omega⟩ dL_law_1602 (fun r201 M200 => ?_)
    refine ts_iload C dL_law_1605 1 rfl ?_
    refine ts_cmp_eq C rfl rfl 1612 dL_law_1607 rfl ?_ ?_
    · refine ts_iload C dL_law_1612 1 rfl ?_
      refine ts_cm0_ne C rfl 1629 dL_law_1614 rfl ?_ ?_
      · exact ts_sub [2, 3, 4, 5, 6, 7] rfl (H1629 n28 hn28 k28 hk28 _ _)
      · refine ts_aload_n C dL_law_1617 rfl 5 rfl ?_
        refine ts_iconst C dL_law_1618 0 rfl ?_
        refine ts_laldc C (by decide) shG175 tw_0 (by decide) dL_law_1619 ?_
        refine ts_iload C dL_law_1620 0 rfl ?_
        refine ts_i2l C dL_law_1622 ?_
        refine ts_lcmp C dL_law_1623 ?_
        refine ts_lif_eq C 1629 dL_law_1624 rfl ?_ ?_
        · exact ts_sub [2, 3, 4, 5, 6, 7] rfl (H1629 n28 hn28 k28 hk28 _ _)
        · refine ts_iconst C dL_law_1627 0 rfl ?_
          exact hret dL_law_1628 (by omega) (by omega)
    · refine ts_iconst C dL_law_1610 0 rfl ?_
      exact hret dL_law_1611 (by omega) (by omega)
  have H1680 : ∀ (n28 : Nat) (hn28 : n28 + 1 ≤ 513) (k28 : Int → ts_M → Prop) (hk28 : ∀ (y5 : Int) (M : ts_M), k28 y5 M → ts_V p l e room_1 s m args below meth c g 9 (200 + (513 - n28) * 30) (4100 + (513 - n28) * 2100) Q0 28 [(0, .ref b0), (1, .ref (ts_ad g 154)), (2, .ref (ts_ad g 164)), (3, .ref (ts_ad g 175)), (4, .ref (ts_ad g 176)), (5, ts_v y5)] [] M) (y5 : Int) (M : ts_M), wL_law_B1680 L xs k28 Q y5 M → ts_V p l e room_1 s m args below meth c g 9 (200 + (513 - (n28 + 1)) * 30 + 1) (4100 + (513 - (n28 + 1)) * 2100 + 6) Q0 1680 [(0, .ref b0), (1, .ref (ts_ad g 154)), (2, .ref (ts_ad g 164)), (3, .ref (ts_ad g 175)), (4, .ref (ts_ad g 176)), (5, ts_v y5)] [] M := by
    intro n28 hn28 k28 hk28 y5 M
    unfold wL_law_B1680
    refine ts_goto C 2953 dL_law_1680 rfl ?_
    exact ts_wid (by omega) (by omega) (ts_sub [0, 1, 2, 3, 4, 5] rfl (H2953 n28 hn28 k28 hk28 _ _))
  have H1674 : ∀ (n28 : Nat) (hn28 : n28 + 1 ≤ 513) (k28 : Int → ts_M → Prop) (hk28 : ∀ (y5 : Int) (M : ts_M), k28 y5 M → ts_V p l e room_1 s m args below meth c g 9 (200 + (513 - n28) * 30) (4100 + (513 - n28) * 2100) Q0 28 [(0, .ref b0), (1, .ref (ts_ad g 154)), (2, .ref (ts_ad g 164)), (3, .ref (ts_ad g 175)), (4, .ref (ts_ad g 176)), (5, ts_v y5)] [] M) (y5 : Int) (z0 : Int64) (z1 : Int64) (M : ts_M), wL_law_B1674 L xs k28 Q y5 z0 z1 M → ts_V p l e room_1 s m args below meth c g 9 (200 + (513 - (n28 + 1)) * 30 + 1) (4100 + (513 - (n28 + 1)) * 2100 + 6) Q0 1674 [(0, .ref b0), (1, .ref (ts_ad g 154)), (2, .ref (ts_ad g 164)), (3, .ref (ts_ad g 175)), (4, .ref (ts_ad g 176)), (5, ts_v y5)] [.long z0, .long z1] M := by
    intro n28 hn28 k28 hk28 y5 z0 z1 M
    unfold wL_law_B1674
    refine ts_lcmp C dL_law_1674 ?_
    refine ts_lif_eq C 1680 dL_law_1675 rfl ?_ ?_
    · exact ts_sub [0, 1, 2, 3, 4, 5] rfl (H1680 n28 hn28 k28 hk28 _ _)
    · refine ts_iconst C dL_law_1678 0 rfl ?_
      exact hret dL_law_1679 (by omega) (by omega)
  have H1632 : ∀ (n28 : Nat) (hn28 : n28 + 1 ≤ 513) (k28 : Int → ts_M → Prop) (hk28 : ∀ (y5 : Int) (M : ts_M), k28 y5 M → ts_V p l e room_1 s m args below meth c g 9 (200 + (513 - n28) * 30) (4100 + (513 - n28) * 2100) Q0 28 [(0, .ref b0), (1, .ref (ts_ad g 154)), (2, .ref (ts_ad g 164)), (3, .ref (ts_ad g 175)), (4, .ref (ts_ad g 176)), (5, ts_v y5)] [] M) (y5 : Int) (M : ts_M), wL_law_B1632 L xs k28 Q y5 M → ts_V p l e room_1 s m args below meth c g 9 (200 + (513 - (n28 + 1)) * 30) (4100 + (513 - (n28 + 1)) * 2100) Q0 1632 [(0, .ref b0), (1, .ref (ts_ad g 154)), (2, .ref (ts_ad g 164)), (3, .ref (ts_ad g 175)), (4, .ref (ts_ad g 176)), (5, ts_v y5)] [] M := by
    intro n28 hn28 k28 hk28 y5 M
    unfold wL_law_B1632
    refine ts_aload_n C dL_law_1632 rfl 1 rfl ?_
    refine ts_aload_n C dL_law_1633 rfl 3 rfl ?_
    refine ts_callW C [.ref (ts_ad g 154), .ref (ts_ad g 175)] (mL_wouldPass hl) kL_wouldPass q_1655 rfl rfl (Nat.le_of_ble_eq_true rfl) ⟨Nat.le_of_ble_eq_true rfl, Nat.le_of_ble_eq_true rfl⟩ ⟨by simp only [room_1]; omega, by simp only [room_1]; omega⟩ dL_law_1634 (fun r203 M202 => ?_)
    refine ts_istore C dL_law_1637 (by decide) (lv' := fun x204 => [(6, ts_v x204), (0, .ref b0), (1, .ref (ts_ad g 154)), (2, .ref (ts_ad g 164)), (3, .ref (ts_ad g 175)), (4, .ref (ts_ad g 176)), (5, ts_v y5)]) (fun _ => rfl) (fun x204 => ?_)
    refine ts_aload_n C dL_law_1639 rfl 3 rfl ?_
    refine ts_callVi C [] (mX12_wouldPass hl) kX12_wouldPass q_2369 (by decide) shX12 rfl rfl rfl (Nat.le_of_ble_eq_true rfl) ⟨Nat.le_of_ble_eq_true rfl, Nat.le_of_ble_eq_true rfl⟩ ⟨by simp only [room_1]; omega, by simp only [room_1]; omega⟩ dL_law_1640 (fun r206 M205 => ?_)
    refine ts_istore C dL_law_1643 (by decide) (lv' := fun x207 => [(7, ts_v x207), (6, ts_v x204), (0, .ref b0), (1, .ref (ts_ad g 154)), (2, .ref (ts_ad g 164)), (3, .ref (ts_ad g 175)), (4, .ref (ts_ad g 176)), (5, ts_v y5)]) (fun _ => rfl) (fun x207 => ?_)
    refine ts_aload_n C dL_law_1645 rfl 4 rfl ?_
    refine ts_callVi C [] (mX12_thrown hl) kX12_thrown q_2022 (by decide) shX12 rfl rfl rfl (Nat.le_of_ble_eq_true rfl) ⟨Nat.le_of_ble_eq_true rfl, Nat.le_of_ble_eq_true rfl⟩ ⟨by simp only [room_1]; omega, by simp only [room_1]; omega⟩ dL_law_1646 (fun r209 M208 => ?_)
    refine ts_iload C dL_law_1649 1 rfl ?_
    refine ts_cmp_eq C rfl rfl 1656 dL_law_1651 rfl ?_ ?_
    · refine ts_iload C dL_law_1656 1 rfl ?_
      refine ts_cm0_ne C rfl 1680 dL_law_1658 rfl ?_ ?_
      · exact ts_sub [2, 3, 4, 5, 6, 7] rfl (H1680 n28 hn28 k28 hk28 _ _)
      · refine ts_aload_n C dL_law_1661 rfl 5 rfl ?_
        refine ts_iconst C dL_law_1662 0 rfl ?_
        refine ts_laldc C (by decide) shG175 tw_0 (by decide) dL_law_1663 ?_
        refine ts_iload C dL_law_1664 0 rfl ?_
        refine ts_cm0_eq C rfl 1673 dL_law_1666 rfl ?_ ?_
        · refine ts_lconst C dL_law_1673 0 rfl ?_
          exact ts_sub [2, 3, 4, 5, 6, 7] rfl (H1674 n28 hn28 k28 hk28 _ _ _ _)
        · refine ts_lconst C dL_law_1669 1 rfl ?_
          refine ts_goto C 1674 dL_law_1670 rfl ?_
          exact ts_sub [2, 3, 4, 5, 6, 7] rfl (H1674 n28 hn28 k28 hk28 _ _ _ _)
    · refine ts_iconst C dL_law_1654 0 rfl ?_
      exact hret dL_law_1655 (by omega) (by omega)
  have H1743 : ∀ (n28 : Nat) (hn28 : n28 + 1 ≤ 513) (k28 : Int → ts_M → Prop) (hk28 : ∀ (y5 : Int) (M : ts_M), k28 y5 M → ts_V p l e room_1 s m args below meth c g 9 (200 + (513 - n28) * 30) (4100 + (513 - n28) * 2100) Q0 28 [(0, .ref b0), (1, .ref (ts_ad g 154)), (2, .ref (ts_ad g 164)), (3, .ref (ts_ad g 175)), (4, .ref (ts_ad g 176)), (5, ts_v y5)] [] M) (y5 : Int) (M : ts_M), wL_law_B1743 L xs k28 Q y5 M → ts_V p l e room_1 s m args below meth c g 9 (200 + (513 - (n28 + 1)) * 30 + 2) (4100 + (513 - (n28 + 1)) * 2100 + 12) Q0 1743 [(0, .ref b0), (1, .ref (ts_ad g 154)), (2, .ref (ts_ad g 164)), (3, .ref (ts_ad g 175)), (4, .ref (ts_ad g 176)), (5, ts_v y5)] [] M := by
    intro n28 hn28 k28 hk28 y5 M
    unfold wL_law_B1743
    refine ts_goto C 2953 dL_law_1743 rfl ?_
    exact ts_wid (by omega) (by omega) (ts_sub [0, 1, 2, 3, 4, 5] rfl (H2953 n28 hn28 k28 hk28 _ _))
  have H1737 : ∀ (n28 : Nat) (hn28 : n28 + 1 ≤ 513) (k28 : Int → ts_M → Prop) (hk28 : ∀ (y5 : Int) (M : ts_M), k28 y5 M → ts_V p l e room_1 s m args below meth c g 9 (200 + (513 - n28) * 30) (4100 + (513 - n28) * 2100) Q0 28 [(0, .ref b0), (1, .ref (ts_ad g 154)), (2, .ref (ts_ad g 164)), (3, .ref (ts_ad g 175)), (4, .ref (ts_ad g 176)), (5, ts_v y5)] [] M) (y5 : Int) (z0 : Int64) (z1 : Int64) (M : ts_M), wL_law_B1737 L xs k28 Q y5 z0 z1 M → ts_V p l e room_1 s m args below meth c g 9 (200 + (513 - (n28 + 1)) * 30 + 2) (4100 + (513 - (n28 + 1)) * 2100 + 12) Q0 1737 [(0, .ref b0), (1, .ref (ts_ad g 154)), (2, .ref (ts_ad g 164)), (3, .ref (ts_ad g 175)), (4, .ref (ts_ad g 176)), (5, ts_v y5)] [.long z0, .long z1] M := by
    intro n28 hn28 k28 hk28 y5 z0 z1 M
    unfold wL_law_B1737
    refine ts_lcmp C dL_law_1737 ?_
    refine ts_lif_eq C 1743 dL_law_1738 rfl ?_ ?_
    · exact ts_sub [0, 1, 2, 3, 4, 5] rfl (H1743 n28 hn28 k28 hk28 _ _)
    · refine ts_iconst C dL_law_1741 0 rfl ?_
      exact hret dL_law_1742 (by omega) (by omega)
  have H1683 : ∀ (n28 : Nat) (hn28 : n28 + 1 ≤ 513) (k28 : Int → ts_M → Prop) (hk28 : ∀ (y5 : Int) (M : ts_M), k28 y5 M → ts_V p l e room_1 s m args below meth c g 9 (200 + (513 - n28) * 30) (4100 + (513 - n28) * 2100) Q0 28 [(0, .ref b0), (1, .ref (ts_ad g 154)), (2, .ref (ts_ad g 164)), (3, .ref (ts_ad g 175)), (4, .ref (ts_ad g 176)), (5, ts_v y5)] [] M) (y5 : Int) (M : ts_M), wL_law_B1683 L xs k28 Q y5 M → ts_V p l e room_1 s m args below meth c g 9 (200 + (513 - (n28 + 1)) * 30) (4100 + (513 - (n28 + 1)) * 2100) Q0 1683 [(0, .ref b0), (1, .ref (ts_ad g 154)), (2, .ref (ts_ad g 164)), (3, .ref (ts_ad g 175)), (4, .ref (ts_ad g 176)), (5, ts_v y5)] [] M := by
    intro n28 hn28 k28 hk28 y5 M
    unfold wL_law_B1683
    refine ts_aload_n C dL_law_1683 rfl 1 rfl ?_
    refine ts_aload_n C dL_law_1684 rfl 0 rfl ?_
    refine ts_iload C dL_law_1685 5 rfl ?_
    refine ts_iconst C dL_law_1687 1 rfl ?_
    refine ts_iadd C dL_law_1688 ?_
    refine ts_sld C hX0 hb0 hbA dL_law_1689 ?_
    refine ts_aload_n C dL_law_1690 rfl 3 rfl ?_
    refine ts_callW C [.ref (ts_ad g 154), ts_v (ts_xs xs (ts_w (y5 + 1))), .ref (ts_ad g 175)] (mL_votesYes hl) kL_votesYes q_1663 rfl rfl (Nat.le_of_ble_eq_true rfl) ⟨Nat.le_of_ble_eq_true rfl, Nat.le_of_ble_eq_true rfl⟩ ⟨by simp only [room_1]; omega, by simp only [room_1]; omega⟩ dL_law_1691 (fun r211 M210 => ?_)
    refine ts_istore C dL_law_1694 (by decide) (lv' := fun x212 => [(6, ts_v x212), (0, .ref b0), (1, .ref (ts_ad g 154)), (2, .ref (ts_ad g 164)), (3, .ref (ts_ad g 175)), (4, .ref (ts_ad g 176)), (5, ts_v y5)]) (fun _ => rfl) (fun x212 => ?_)
    refine ts_aload_n C dL_law_1696 rfl 3 rfl ?_
    refine ts_aload_n C dL_law_1697 rfl 1 rfl ?_
    refine ts_iload C dL_law_1698 6 rfl ?_
    refine ts_iconst C dL_law_1700 1 rfl ?_
    refine ts_iadd C dL_law_1701 ?_
    refine ts_sld C hX0 hb0 hbA dL_law_1702 ?_
    refine ts_callVi C [ts_v (ts_xs xs (ts_w (y5 + 1)))] (mX12_votesYes hl) kX12_votesYes q_2373 (by decide) shX12 rfl rfl rfl (Nat.le_of_ble_eq_true rfl) ⟨Nat.le_of_ble_eq_true rfl, Nat.le_of_ble_eq_true rfl⟩ ⟨by simp only [room_1]; omega, by simp only [room_1]; omega⟩ dL_law_1703 (fun r214 M213 => ?_)
    refine ts_istore C dL_law_1706 (by decide) (lv' := fun x215 => [(7, ts_v x215), (6, ts_v x212), (0, .ref b0), (1, .ref (ts_ad g 154)), (2, .ref (ts_ad g 164)), (3, .ref (ts_ad g 175)), (4, .ref (ts_ad g 176)), (5, ts_v y5)]) (fun _ => rfl) (fun x215 => ?_)
    refine ts_aload_n C dL_law_1708 rfl 4 rfl ?_
    refine ts_callVi C [] (mX12_thrown hl) kX12_thrown q_2022 (by decide) shX12 rfl rfl rfl (Nat.le_of_ble_eq_true rfl) ⟨Nat.le_of_ble_eq_true rfl, Nat.le_of_ble_eq_true rfl⟩ ⟨by simp only [room_1]; omega, by simp only [room_1]; omega⟩ dL_law_1709 (fun r217 M216 => ?_)
    refine ts_iload C dL_law_1712 1 rfl ?_
    refine ts_cmp_eq C rfl rfl 1719 dL_law_1714 rfl ?_ ?_
    · refine ts_iload C dL_law_1719 1 rfl ?_
      refine ts_cm0_ne C rfl 1743 dL_law_1721 rfl ?_ ?_
      · exact ts_sub [2, 3, 4, 5, 6, 7] rfl (H1743 n28 hn28 k28 hk28 _ _)
      · refine ts_aload_n C dL_law_1724 rfl 5 rfl ?_
        refine ts_iconst C dL_law_1725 0 rfl ?_
        refine ts_laldc C (by decide) shG175 tw_0 (by decide) dL_law_1726 ?_
        refine ts_iload C dL_law_1727 0 rfl ?_
        refine ts_cm0_eq C rfl 1736 dL_law_1729 rfl ?_ ?_
        · refine ts_lconst C dL_law_1736 0 rfl ?_
          exact ts_sub [2, 3, 4, 5, 6, 7] rfl (H1737 n28 hn28 k28 hk28 _ _ _ _)
        · refine ts_lconst C dL_law_1732 1 rfl ?_
          refine ts_goto C 1737 dL_law_1733 rfl ?_
          exact ts_sub [2, 3, 4, 5, 6, 7] rfl (H1737 n28 hn28 k28 hk28 _ _ _ _)
    · refine ts_iconst C dL_law_1717 0 rfl ?_
      exact hret dL_law_1718 (by omega) (by omega)
  have H1811 : ∀ (n28 : Nat) (hn28 : n28 + 1 ≤ 513) (k28 : Int → ts_M → Prop) (hk28 : ∀ (y5 : Int) (M : ts_M), k28 y5 M → ts_V p l e room_1 s m args below meth c g 9 (200 + (513 - n28) * 30) (4100 + (513 - n28) * 2100) Q0 28 [(0, .ref b0), (1, .ref (ts_ad g 154)), (2, .ref (ts_ad g 164)), (3, .ref (ts_ad g 175)), (4, .ref (ts_ad g 176)), (5, ts_v y5)] [] M) (y5 : Int) (M : ts_M), wL_law_B1811 L xs k28 Q y5 M → ts_V p l e room_1 s m args below meth c g 9 (200 + (513 - (n28 + 1)) * 30 + 2) (4100 + (513 - (n28 + 1)) * 2100 + 12) Q0 1811 [(0, .ref b0), (1, .ref (ts_ad g 154)), (2, .ref (ts_ad g 164)), (3, .ref (ts_ad g 175)), (4, .ref (ts_ad g 176)), (5, ts_v y5)] [] M := by
    intro n28 hn28 k28 hk28 y5 M
    unfold wL_law_B1811
    refine ts_goto C 2953 dL_law_1811 rfl ?_
    exact ts_wid (by omega) (by omega) (ts_sub [0, 1, 2, 3, 4, 5] rfl (H2953 n28 hn28 k28 hk28 _ _))
  have H1746 : ∀ (n28 : Nat) (hn28 : n28 + 1 ≤ 513) (k28 : Int → ts_M → Prop) (hk28 : ∀ (y5 : Int) (M : ts_M), k28 y5 M → ts_V p l e room_1 s m args below meth c g 9 (200 + (513 - n28) * 30) (4100 + (513 - n28) * 2100) Q0 28 [(0, .ref b0), (1, .ref (ts_ad g 154)), (2, .ref (ts_ad g 164)), (3, .ref (ts_ad g 175)), (4, .ref (ts_ad g 176)), (5, ts_v y5)] [] M) (y5 : Int) (M : ts_M), wL_law_B1746 L xs k28 Q y5 M → ts_V p l e room_1 s m args below meth c g 9 (200 + (513 - (n28 + 1)) * 30) (4100 + (513 - (n28 + 1)) * 2100) Q0 1746 [(0, .ref b0), (1, .ref (ts_ad g 154)), (2, .ref (ts_ad g 164)), (3, .ref (ts_ad g 175)), (4, .ref (ts_ad g 176)), (5, ts_v y5)] [] M := by
    intro n28 hn28 k28 hk28 y5 M
    unfold wL_law_B1746
    refine ts_aload_n C dL_law_1746 rfl 1 rfl ?_
    refine ts_aload_n C dL_law_1747 rfl 0 rfl ?_
    refine ts_iload C dL_law_1748 5 rfl ?_
    refine ts_iconst C dL_law_1750 1 rfl ?_
    refine ts_iadd C dL_law_1751 ?_
    refine ts_sld C hX0 hb0 hbA dL_law_1752 ?_
    refine ts_aload_n C dL_law_1753 rfl 0 rfl ?_
    refine ts_iload C dL_law_1754 5 rfl ?_
    refine ts_iconst C dL_law_1756 2 rfl ?_
    refine ts_iadd C dL_law_1757 ?_
    refine ts_sld C hX0 hb0 hbA dL_law_1758 ?_
    refine ts_aload_n C dL_law_1759 rfl 3 rfl ?_
    refine ts_callW C [.ref (ts_ad g 154), ts_v (ts_xs xs (ts_w (y5 + 1))), ts_v (ts_xs xs (ts_w (y5 + 2))), .ref (ts_ad g 175)] (mL_support hl) kL_support q_1672 rfl rfl (Nat.le_of_ble_eq_true rfl) ⟨Nat.le_of_ble_eq_true rfl, Nat.le_of_ble_eq_true rfl⟩ ⟨by simp only [room_1]; omega, by simp only [room_1]; omega⟩ dL_law_1760 (fun r219 M218 => ?_)
    refine ts_istore C dL_law_1763 (by decide) (lv' := fun x220 => [(6, ts_v x220), (0, .ref b0), (1, .ref (ts_ad g 154)), (2, .ref (ts_ad g 164)), (3, .ref (ts_ad g 175)), (4, .ref (ts_ad g 176)), (5, ts_v y5)]) (fun _ => rfl) (fun x220 => ?_)
    refine ts_aload_n C dL_law_1765 rfl 3 rfl ?_
    refine ts_aload_n C dL_law_1766 rfl 1 rfl ?_
    refine ts_iload C dL_law_1767 6 rfl ?_
    refine ts_iconst C dL_law_1769 1 rfl ?_
    refine ts_iadd C dL_law_1770 ?_
    refine ts_sld C hX0 hb0 hbA dL_law_1771 ?_
    refine ts_aload_n C dL_law_1772 rfl 1 rfl ?_
    refine ts_iload C dL_law_1773 6 rfl ?_
    refine ts_iconst C dL_law_1775 2 rfl ?_
    refine ts_iadd C dL_law_1776 ?_
    refine ts_sld C hX0 hb0 hbA dL_law_1777 ?_
    refine ts_callVi C [ts_v (ts_xs xs (ts_w (y5 + 1))), ts_v (ts_xs xs (ts_w (y5 + 2)))] (mX12_support hl) kX12_support q_2377 (by decide) shX12 rfl rfl rfl (Nat.le_of_ble_eq_true rfl) ⟨Nat.le_of_ble_eq_true rfl, Nat.le_of_ble_eq_true rfl⟩ ⟨by simp only [room_1]; omega, by simp only [room_1]; omega⟩ dL_law_1778 (fun r222 M221 => ?_)
    refine ts_istore C dL_law_1781 (by decide) (lv' := fun x223 => [(7, ts_v x223), (6, ts_v x220), (0, .ref b0), (1, .ref (ts_ad g 154)), (2, .ref (ts_ad g 164)), (3, .ref (ts_ad g 175)), (4, .ref (ts_ad g 176)), (5, ts_v y5)]) (fun _ => rfl) (fun x223 => ?_)
    refine ts_aload_n C dL_law_1783 rfl 4 rfl ?_
    refine ts_callVi C [] (mX12_thrown hl) kX12_thrown q_2022 (by decide) shX12 rfl rfl rfl (Nat.le_of_ble_eq_true rfl) ⟨Nat.le_of_ble_eq_true rfl, Nat.le_of_ble_eq_true rfl⟩ ⟨by simp only [room_1]; omega, by simp only [room_1]; omega⟩ dL_law_1784 (fun r225 M224 => ?_)
    refine ts_iload C dL_law_1787 1 rfl ?_
    refine ts_cmp_eq C rfl rfl 1794 dL_law_1789 rfl ?_ ?_
    · refine ts_iload C dL_law_1794 1 rfl ?_
      refine ts_cm0_ne C rfl 1811 dL_law_1796 rfl ?_ ?_
      · exact ts_sub [2, 3, 4, 5, 6, 7] rfl (H1811 n28 hn28 k28 hk28 _ _)
      · refine ts_aload_n C dL_law_1799 rfl 5 rfl ?_
        refine ts_iconst C dL_law_1800 0 rfl ?_
        refine ts_laldc C (by decide) shG175 tw_0 (by decide) dL_law_1801 ?_
        refine ts_iload C dL_law_1802 0 rfl ?_
        refine ts_i2l C dL_law_1804 ?_
        refine ts_lcmp C dL_law_1805 ?_
        refine ts_lif_eq C 1811 dL_law_1806 rfl ?_ ?_
        · exact ts_sub [2, 3, 4, 5, 6, 7] rfl (H1811 n28 hn28 k28 hk28 _ _)
        · refine ts_iconst C dL_law_1809 0 rfl ?_
          exact hret dL_law_1810 (by omega) (by omega)
    · refine ts_iconst C dL_law_1792 0 rfl ?_
      exact hret dL_law_1793 (by omega) (by omega)
  have H1814 : ∀ (n28 : Nat) (hn28 : n28 + 1 ≤ 513) (k28 : Int → ts_M → Prop) (hk28 : ∀ (y5 : Int) (M : ts_M), k28 y5 M → ts_V p l e room_1 s m args below meth c g 9 (200 + (513 - n28) * 30) (4100 + (513 - n28) * 2100) Q0 28 [(0, .ref b0), (1, .ref (ts_ad g 154)), (2, .ref (ts_ad g 164)), (3, .ref (ts_ad g 175)), (4, .ref (ts_ad g 176)), (5, ts_v y5)] [] M) (y5 : Int) (M : ts_M), wL_law_B1814 L xs k28 Q y5 M → ts_V p l e room_1 s m args below meth c g 9 (200 + (513 - (n28 + 1)) * 30) (4100 + (513 - (n28 + 1)) * 2100) Q0 1814 [(0, .ref b0), (1, .ref (ts_ad g 154)), (2, .ref (ts_ad g 164)), (3, .ref (ts_ad g 175)), (4, .ref (ts_ad g 176)), (5, ts_v y5)] [] M := by
    intro n28 hn28 k28 hk28 y5 M
    unfold wL_law_B1814
    refine ts_aload_n C dL_law_1814 rfl 1 rfl ?_
    refine ts_callVi C [] (mX11_fewestDisagreements hl) kX11_fewestDisagreements q_475 (by decide) shX11 rfl rfl rfl (Nat.le_of_ble_eq_true rfl) ⟨Nat.le_of_ble_eq_true rfl, Nat.le_of_ble_eq_true rfl⟩ ⟨by simp only [room_1]; omega, by simp only [room_1]; omega⟩ dL_law_1815 (fun r227 M226 => ?_)
    refine ts_aload_n C dL_law_1818 rfl 2 rfl ?_
    refine ts_callVi C [] (mX12_fewestDisagreements hl) kX12_fewestDisagreements q_2385 (by decide) shX12 rfl rfl rfl (Nat.le_of_ble_eq_true rfl) ⟨Nat.le_of_ble_eq_true rfl, Nat.le_of_ble_eq_true rfl⟩ ⟨by simp only [room_1]; omega, by simp only [room_1]; omega⟩ dL_law_1819 (fun r229 M228 => ?_)
    refine ts_cmp_eq C rfl rfl 2953 dL_law_1822 rfl ?_ ?_
    · exact ts_wid (by omega) (by omega) (ts_sub [0, 1, 2, 3, 4, 5] rfl (H2953 n28 hn28 k28 hk28 _ _))
    · refine ts_iconst C dL_law_1825 0 rfl ?_
      exact hret dL_law_1826 (by omega) (by omega)
  have H1827 : ∀ (n28 : Nat) (hn28 : n28 + 1 ≤ 513) (k28 : Int → ts_M → Prop) (hk28 : ∀ (y5 : Int) (M : ts_M), k28 y5 M → ts_V p l e room_1 s m args below meth c g 9 (200 + (513 - n28) * 30) (4100 + (513 - n28) * 2100) Q0 28 [(0, .ref b0), (1, .ref (ts_ad g 154)), (2, .ref (ts_ad g 164)), (3, .ref (ts_ad g 175)), (4, .ref (ts_ad g 176)), (5, ts_v y5)] [] M) (y5 : Int) (M : ts_M), wL_law_B1827 L xs k28 Q y5 M → ts_V p l e room_1 s m args below meth c g 9 (200 + (513 - (n28 + 1)) * 30) (4100 + (513 - (n28 + 1)) * 2100) Q0 1827 [(0, .ref b0), (1, .ref (ts_ad g 154)), (2, .ref (ts_ad g 164)), (3, .ref (ts_ad g 175)), (4, .ref (ts_ad g 176)), (5, ts_v y5)] [] M := by
    intro n28 hn28 k28 hk28 y5 M
    unfold wL_law_B1827
    refine ts_aload_n C dL_law_1827 rfl 1 rfl ?_
    refine ts_callVi C [] (mX11_fewestDisagreementsByOrders hl) kX11_fewestDisagreementsByOrders q_516 (by decide) shX11 rfl rfl rfl (Nat.le_of_ble_eq_true rfl) ⟨Nat.le_of_ble_eq_true rfl, Nat.le_of_ble_eq_true rfl⟩ ⟨by simp only [room_1]; omega, by simp only [room_1]; omega⟩ dL_law_1828 (fun r231 M230 => ?_)
    refine ts_aload_n C dL_law_1831 rfl 2 rfl ?_
    refine ts_callVi C [] (mX12_fewestDisagreementsByOrders hl) kX12_fewestDisagreementsByOrders q_2397 (by decide) shX12 rfl rfl rfl (Nat.le_of_ble_eq_true rfl) ⟨Nat.le_of_ble_eq_true rfl, Nat.le_of_ble_eq_true rfl⟩ ⟨by simp only [room_1]; omega, by simp only [room_1]; omega⟩ dL_law_1832 (fun r233 M232 => ?_)
    refine ts_cmp_eq C rfl rfl 2953 dL_law_1835 rfl ?_ ?_
    · exact ts_wid (by omega) (by omega) (ts_sub [0, 1, 2, 3, 4, 5] rfl (H2953 n28 hn28 k28 hk28 _ _))
    · refine ts_iconst C dL_law_1838 0 rfl ?_
      exact hret dL_law_1839 (by omega) (by omega)
  have H1893 : ∀ (n28 : Nat) (hn28 : n28 + 1 ≤ 513) (k28 : Int → ts_M → Prop) (hk28 : ∀ (y5 : Int) (M : ts_M), k28 y5 M → ts_V p l e room_1 s m args below meth c g 9 (200 + (513 - n28) * 30) (4100 + (513 - n28) * 2100) Q0 28 [(0, .ref b0), (1, .ref (ts_ad g 154)), (2, .ref (ts_ad g 164)), (3, .ref (ts_ad g 175)), (4, .ref (ts_ad g 176)), (5, ts_v y5)] [] M) (y5 : Int) (M : ts_M), wL_law_B1893 L xs k28 Q y5 M → ts_V p l e room_1 s m args below meth c g 9 (200 + (513 - (n28 + 1)) * 30 + 1) (4100 + (513 - (n28 + 1)) * 2100 + 6) Q0 1893 [(0, .ref b0), (1, .ref (ts_ad g 154)), (2, .ref (ts_ad g 164)), (3, .ref (ts_ad g 175)), (4, .ref (ts_ad g 176)), (5, ts_v y5)] [] M := by
    intro n28 hn28 k28 hk28 y5 M
    unfold wL_law_B1893
    refine ts_goto C 2953 dL_law_1893 rfl ?_
    exact ts_wid (by omega) (by omega) (ts_sub [0, 1, 2, 3, 4, 5] rfl (H2953 n28 hn28 k28 hk28 _ _))
  have H1840 : ∀ (n28 : Nat) (hn28 : n28 + 1 ≤ 513) (k28 : Int → ts_M → Prop) (hk28 : ∀ (y5 : Int) (M : ts_M), k28 y5 M → ts_V p l e room_1 s m args below meth c g 9 (200 + (513 - n28) * 30) (4100 + (513 - n28) * 2100) Q0 28 [(0, .ref b0), (1, .ref (ts_ad g 154)), (2, .ref (ts_ad g 164)), (3, .ref (ts_ad g 175)), (4, .ref (ts_ad g 176)), (5, ts_v y5)] [] M) (y5 : Int) (M : ts_M), wL_law_B1840 L xs k28 Q y5 M → ts_V p l e room_1 s m args below meth c g 9 (200 + (513 - (n28 + 1)) * 30) (4100 + (513 - (n28 + 1)) * 2100) Q0 1840 [(0, .ref b0), (1, .ref (ts_ad g 154)), (2, .ref (ts_ad g 164)), (3, .ref (ts_ad g 175)), (4, .ref (ts_ad g 176)), (5, ts_v y5)] [] M := by
    intro n28 hn28 k28 hk28 y5 M
    unfold wL_law_B1840
    refine ts_aload_n C dL_law_1840 rfl 1 rfl ?_
    refine ts_aload_n C dL_law_1841 rfl 0 rfl ?_
    refine ts_iload C dL_law_1842 5 rfl ?_
    refine ts_iconst C dL_law_1844 1 rfl ?_
    refine ts_iadd C dL_law_1845 ?_
    refine ts_sld C hX0 hb0 hbA dL_law_1846 ?_
    refine ts_aload_n C dL_law_1847 rfl 3 rfl ?_
    refine ts_callW C [.ref (ts_ad g 154), ts_v (ts_xs xs (ts_w (y5 + 1))), .ref (ts_ad g 175)] (mL_bestOrder hl) kL_bestOrder q_1680 rfl rfl (Nat.le_of_ble_eq_true rfl) ⟨Nat.le_of_ble_eq_true rfl, Nat.le_of_ble_eq_true rfl⟩ ⟨by simp only [room_1]; omega, by simp only [room_1]; omega⟩ dL_law_1848 (fun r235 M234 => ?_)
    refine ts_istore C dL_law_1851 (by decide) (lv' := fun x236 => [(6, ts_v x236), (0, .ref b0), (1, .ref (ts_ad g 154)), (2, .ref (ts_ad g 164)), (3, .ref (ts_ad g 175)), (4, .ref (ts_ad g 176)), (5, ts_v y5)]) (fun _ => rfl) (fun x236 => ?_)
    refine ts_aload_n C dL_law_1853 rfl 3 rfl ?_
    refine ts_aload_n C dL_law_1854 rfl 1 rfl ?_
    refine ts_iload C dL_law_1855 6 rfl ?_
    refine ts_iconst C dL_law_1857 1 rfl ?_
    refine ts_iadd C dL_law_1858 ?_
    refine ts_sld C hX0 hb0 hbA dL_law_1859 ?_
    refine ts_callVi C [ts_v (ts_xs xs (ts_w (y5 + 1)))] (mX12_bestOrder hl) kX12_bestOrder q_2402 (by decide) shX12 rfl rfl rfl (Nat.le_of_ble_eq_true rfl) ⟨Nat.le_of_ble_eq_true rfl, Nat.le_of_ble_eq_true rfl⟩ ⟨by simp only [room_1]; omega, by simp only [room_1]; omega⟩ dL_law_1860 (fun r238 M237 => ?_)
    refine ts_istore C dL_law_1863 (by decide) (lv' := fun x239 => [(7, ts_v x239), (6, ts_v x236), (0, .ref b0), (1, .ref (ts_ad g 154)), (2, .ref (ts_ad g 164)), (3, .ref (ts_ad g 175)), (4, .ref (ts_ad g 176)), (5, ts_v y5)]) (fun _ => rfl) (fun x239 => ?_)
    refine ts_aload_n C dL_law_1865 rfl 4 rfl ?_
    refine ts_callVi C [] (mX12_thrown hl) kX12_thrown q_2022 (by decide) shX12 rfl rfl rfl (Nat.le_of_ble_eq_true rfl) ⟨Nat.le_of_ble_eq_true rfl, Nat.le_of_ble_eq_true rfl⟩ ⟨by simp only [room_1]; omega, by simp only [room_1]; omega⟩ dL_law_1866 (fun r241 M240 => ?_)
    refine ts_iload C dL_law_1869 1 rfl ?_
    refine ts_cmp_eq C rfl rfl 1876 dL_law_1871 rfl ?_ ?_
    · refine ts_iload C dL_law_1876 1 rfl ?_
      refine ts_cm0_ne C rfl 1893 dL_law_1878 rfl ?_ ?_
      · exact ts_sub [2, 3, 4, 5, 6, 7] rfl (H1893 n28 hn28 k28 hk28 _ _)
      · refine ts_aload_n C dL_law_1881 rfl 5 rfl ?_
        refine ts_iconst C dL_law_1882 0 rfl ?_
        refine ts_laldc C (by decide) shG175 tw_0 (by decide) dL_law_1883 ?_
        refine ts_iload C dL_law_1884 0 rfl ?_
        refine ts_i2l C dL_law_1886 ?_
        refine ts_lcmp C dL_law_1887 ?_
        refine ts_lif_eq C 1893 dL_law_1888 rfl ?_ ?_
        · exact ts_sub [2, 3, 4, 5, 6, 7] rfl (H1893 n28 hn28 k28 hk28 _ _)
        · refine ts_iconst C dL_law_1891 0 rfl ?_
          exact hret dL_law_1892 (by omega) (by omega)
    · refine ts_iconst C dL_law_1874 0 rfl ?_
      exact hret dL_law_1875 (by omega) (by omega)
  have H1956 : ∀ (n28 : Nat) (hn28 : n28 + 1 ≤ 513) (k28 : Int → ts_M → Prop) (hk28 : ∀ (y5 : Int) (M : ts_M), k28 y5 M → ts_V p l e room_1 s m args below meth c g 9 (200 + (513 - n28) * 30) (4100 + (513 - n28) * 2100) Q0 28 [(0, .ref b0), (1, .ref (ts_ad g 154)), (2, .ref (ts_ad g 164)), (3, .ref (ts_ad g 175)), (4, .ref (ts_ad g 176)), (5, ts_v y5)] [] M) (y5 : Int) (M : ts_M), wL_law_B1956 L xs k28 Q y5 M → ts_V p l e room_1 s m args below meth c g 9 (200 + (513 - (n28 + 1)) * 30 + 1) (4100 + (513 - (n28 + 1)) * 2100 + 6) Q0 1956 [(0, .ref b0), (1, .ref (ts_ad g 154)), (2, .ref (ts_ad g 164)), (3, .ref (ts_ad g 175)), (4, .ref (ts_ad g 176)), (5, ts_v y5)] [] M := by
    intro n28 hn28 k28 hk28 y5 M
    unfold wL_law_B1956
    refine ts_goto C 2953 dL_law_1956 rfl ?_
    exact ts_wid (by omega) (by omega) (ts_sub [0, 1, 2, 3, 4, 5] rfl (H2953 n28 hn28 k28 hk28 _ _))
  have H1950 : ∀ (n28 : Nat) (hn28 : n28 + 1 ≤ 513) (k28 : Int → ts_M → Prop) (hk28 : ∀ (y5 : Int) (M : ts_M), k28 y5 M → ts_V p l e room_1 s m args below meth c g 9 (200 + (513 - n28) * 30) (4100 + (513 - n28) * 2100) Q0 28 [(0, .ref b0), (1, .ref (ts_ad g 154)), (2, .ref (ts_ad g 164)), (3, .ref (ts_ad g 175)), (4, .ref (ts_ad g 176)), (5, ts_v y5)] [] M) (y5 : Int) (z0 : Int64) (z1 : Int64) (M : ts_M), wL_law_B1950 L xs k28 Q y5 z0 z1 M → ts_V p l e room_1 s m args below meth c g 9 (200 + (513 - (n28 + 1)) * 30 + 1) (4100 + (513 - (n28 + 1)) * 2100 + 6) Q0 1950 [(0, .ref b0), (1, .ref (ts_ad g 154)), (2, .ref (ts_ad g 164)), (3, .ref (ts_ad g 175)), (4, .ref (ts_ad g 176)), (5, ts_v y5)] [.long z0, .long z1] M := by
    intro n28 hn28 k28 hk28 y5 z0 z1 M
    unfold wL_law_B1950
    refine ts_lcmp C dL_law_1950 ?_
    refine ts_lif_eq C 1956 dL_law_1951 rfl ?_ ?_
    · exact ts_sub [0, 1, 2, 3, 4, 5] rfl (H1956 n28 hn28 k28 hk28 _ _)
    · refine ts_iconst C dL_law_1954 0 rfl ?_
      exact hret dL_law_1955 (by omega) (by omega)
  have H1896 : ∀ (n28 : Nat) (hn28 : n28 + 1 ≤ 513) (k28 : Int → ts_M → Prop) (hk28 : ∀ (y5 : Int) (M : ts_M), k28 y5 M → ts_V p l e room_1 s m args below meth c g 9 (200 + (513 - n28) * 30) (4100 + (513 - n28) * 2100) Q0 28 [(0, .ref b0), (1, .ref (ts_ad g 154)), (2, .ref (ts_ad g 164)), (3, .ref (ts_ad g 175)), (4, .ref (ts_ad g 176)), (5, ts_v y5)] [] M) (y5 : Int) (M : ts_M), wL_law_B1896 L xs k28 Q y5 M → ts_V p l e room_1 s m args below meth c g 9 (200 + (513 - (n28 + 1)) * 30) (4100 + (513 - (n28 + 1)) * 2100) Q0 1896 [(0, .ref b0), (1, .ref (ts_ad g 154)), (2, .ref (ts_ad g 164)), (3, .ref (ts_ad g 175)), (4, .ref (ts_ad g 176)), (5, ts_v y5)] [] M := by
    intro n28 hn28 k28 hk28 y5 M
    unfold wL_law_B1896
    refine ts_aload_n C dL_law_1896 rfl 1 rfl ?_
    refine ts_aload_n C dL_law_1897 rfl 0 rfl ?_
    refine ts_iload C dL_law_1898 5 rfl ?_
    refine ts_iconst C dL_law_1900 1 rfl ?_
    refine ts_iadd C dL_law_1901 ?_
    refine ts_sld C hX0 hb0 hbA dL_law_1902 ?_
    refine ts_aload_n C dL_law_1903 rfl 3 rfl ?_
    refine ts_callW C [.ref (ts_ad g 154), ts_v (ts_xs xs (ts_w (y5 + 1))), .ref (ts_ad g 175)] (mL_isInTop hl) kL_isInTop q_1696 rfl rfl (Nat.le_of_ble_eq_true rfl) ⟨Nat.le_of_ble_eq_true rfl, Nat.le_of_ble_eq_true rfl⟩ ⟨by simp only [room_1]; omega, by simp only [room_1]; omega⟩ dL_law_1904 (fun r243 M242 => ?_)
    refine ts_istore C dL_law_1907 (by decide) (lv' := fun x244 => [(6, ts_v x244), (0, .ref b0), (1, .ref (ts_ad g 154)), (2, .ref (ts_ad g 164)), (3, .ref (ts_ad g 175)), (4, .ref (ts_ad g 176)), (5, ts_v y5)]) (fun _ => rfl) (fun x244 => ?_)
    refine ts_aload_n C dL_law_1909 rfl 3 rfl ?_
    refine ts_aload_n C dL_law_1910 rfl 1 rfl ?_
    refine ts_iload C dL_law_1911 6 rfl ?_
    refine ts_iconst C dL_law_1913 1 rfl ?_
    refine ts_iadd C dL_law_1914 ?_
    refine ts_sld C hX0 hb0 hbA dL_law_1915 ?_
    refine ts_callVi C [ts_v (ts_xs xs (ts_w (y5 + 1)))] (mX12_isInTop hl) kX12_isInTop q_2406 (by decide) shX12 rfl rfl rfl (Nat.le_of_ble_eq_true rfl) ⟨Nat.le_of_ble_eq_true rfl, Nat.le_of_ble_eq_true rfl⟩ ⟨by simp only [room_1]; omega, by simp only [room_1]; omega⟩ dL_law_1916 (fun r246 M245 => ?_)
    refine ts_istore C dL_law_1919 (by decide) (lv' := fun x247 => [(7, ts_v x247), (6, ts_v x244), (0, .ref b0), (1, .ref (ts_ad g 154)), (2, .ref (ts_ad g 164)), (3, .ref (ts_ad g 175)), (4, .ref (ts_ad g 176)), (5, ts_v y5)]) (fun _ => rfl) (fun x247 => ?_)
    refine ts_aload_n C dL_law_1921 rfl 4 rfl ?_
    refine ts_callVi C [] (mX12_thrown hl) kX12_thrown q_2022 (by decide) shX12 rfl rfl rfl (Nat.le_of_ble_eq_true rfl) ⟨Nat.le_of_ble_eq_true rfl, Nat.le_of_ble_eq_true rfl⟩ ⟨by simp only [room_1]; omega, by simp only [room_1]; omega⟩ dL_law_1922 (fun r249 M248 => ?_)
    refine ts_iload C dL_law_1925 1 rfl ?_
    refine ts_cmp_eq C rfl rfl 1932 dL_law_1927 rfl ?_ ?_
    · refine ts_iload C dL_law_1932 1 rfl ?_
      refine ts_cm0_ne C rfl 1956 dL_law_1934 rfl ?_ ?_
      · exact ts_sub [2, 3, 4, 5, 6, 7] rfl (H1956 n28 hn28 k28 hk28 _ _)
      · refine ts_aload_n C dL_law_1937 rfl 5 rfl ?_
        refine ts_iconst C dL_law_1938 0 rfl ?_
        refine ts_laldc C (by decide) shG175 tw_0 (by decide) dL_law_1939 ?_
        refine ts_iload C dL_law_1940 0 rfl ?_
        refine ts_cm0_eq C rfl 1949 dL_law_1942 rfl ?_ ?_
        · refine ts_lconst C dL_law_1949 0 rfl ?_
          exact ts_sub [2, 3, 4, 5, 6, 7] rfl (H1950 n28 hn28 k28 hk28 _ _ _ _)
        · refine ts_lconst C dL_law_1945 1 rfl ?_
          refine ts_goto C 1950 dL_law_1946 rfl ?_
          exact ts_sub [2, 3, 4, 5, 6, 7] rfl (H1950 n28 hn28 k28 hk28 _ _ _ _)
    · refine ts_iconst C dL_law_1930 0 rfl ?_
      exact hret dL_law_1931 (by omega) (by omega)
  have H2019 : ∀ (n28 : Nat) (hn28 : n28 + 1 ≤ 513) (k28 : Int → ts_M → Prop) (hk28 : ∀ (y5 : Int) (M : ts_M), k28 y5 M → ts_V p l e room_1 s m args below meth c g 9 (200 + (513 - n28) * 30) (4100 + (513 - n28) * 2100) Q0 28 [(0, .ref b0), (1, .ref (ts_ad g 154)), (2, .ref (ts_ad g 164)), (3, .ref (ts_ad g 175)), (4, .ref (ts_ad g 176)), (5, ts_v y5)] [] M) (y5 : Int) (M : ts_M), wL_law_B2019 L xs k28 Q y5 M → ts_V p l e room_1 s m args below meth c g 9 (200 + (513 - (n28 + 1)) * 30 + 1) (4100 + (513 - (n28 + 1)) * 2100 + 6) Q0 2019 [(0, .ref b0), (1, .ref (ts_ad g 154)), (2, .ref (ts_ad g 164)), (3, .ref (ts_ad g 175)), (4, .ref (ts_ad g 176)), (5, ts_v y5)] [] M := by
    intro n28 hn28 k28 hk28 y5 M
    unfold wL_law_B2019
    refine ts_goto C 2953 dL_law_2019 rfl ?_
    exact ts_wid (by omega) (by omega) (ts_sub [0, 1, 2, 3, 4, 5] rfl (H2953 n28 hn28 k28 hk28 _ _))
  have H2013 : ∀ (n28 : Nat) (hn28 : n28 + 1 ≤ 513) (k28 : Int → ts_M → Prop) (hk28 : ∀ (y5 : Int) (M : ts_M), k28 y5 M → ts_V p l e room_1 s m args below meth c g 9 (200 + (513 - n28) * 30) (4100 + (513 - n28) * 2100) Q0 28 [(0, .ref b0), (1, .ref (ts_ad g 154)), (2, .ref (ts_ad g 164)), (3, .ref (ts_ad g 175)), (4, .ref (ts_ad g 176)), (5, ts_v y5)] [] M) (y5 : Int) (z0 : Int64) (z1 : Int64) (M : ts_M), wL_law_B2013 L xs k28 Q y5 z0 z1 M → ts_V p l e room_1 s m args below meth c g 9 (200 + (513 - (n28 + 1)) * 30 + 1) (4100 + (513 - (n28 + 1)) * 2100 + 6) Q0 2013 [(0, .ref b0), (1, .ref (ts_ad g 154)), (2, .ref (ts_ad g 164)), (3, .ref (ts_ad g 175)), (4, .ref (ts_ad g 176)), (5, ts_v y5)] [.long z0, .long z1] M := by
    intro n28 hn28 k28 hk28 y5 z0 z1 M
    unfold wL_law_B2013
    refine ts_lcmp C dL_law_2013 ?_
    refine ts_lif_eq C 2019 dL_law_2014 rfl ?_ ?_
    · exact ts_sub [0, 1, 2, 3, 4, 5] rfl (H2019 n28 hn28 k28 hk28 _ _)
    · refine ts_iconst C dL_law_2017 0 rfl ?_
      exact hret dL_law_2018 (by omega) (by omega)
  have H1959 : ∀ (n28 : Nat) (hn28 : n28 + 1 ≤ 513) (k28 : Int → ts_M → Prop) (hk28 : ∀ (y5 : Int) (M : ts_M), k28 y5 M → ts_V p l e room_1 s m args below meth c g 9 (200 + (513 - n28) * 30) (4100 + (513 - n28) * 2100) Q0 28 [(0, .ref b0), (1, .ref (ts_ad g 154)), (2, .ref (ts_ad g 164)), (3, .ref (ts_ad g 175)), (4, .ref (ts_ad g 176)), (5, ts_v y5)] [] M) (y5 : Int) (M : ts_M), wL_law_B1959 L xs k28 Q y5 M → ts_V p l e room_1 s m args below meth c g 9 (200 + (513 - (n28 + 1)) * 30) (4100 + (513 - (n28 + 1)) * 2100) Q0 1959 [(0, .ref b0), (1, .ref (ts_ad g 154)), (2, .ref (ts_ad g 164)), (3, .ref (ts_ad g 175)), (4, .ref (ts_ad g 176)), (5, ts_v y5)] [] M := by
    intro n28 hn28 k28 hk28 y5 M
    unfold wL_law_B1959
    refine ts_aload_n C dL_law_1959 rfl 1 rfl ?_
    refine ts_aload_n C dL_law_1960 rfl 0 rfl ?_
    refine ts_iload C dL_law_1961 5 rfl ?_
    refine ts_iconst C dL_law_1963 1 rfl ?_
    refine ts_iadd C dL_law_1964 ?_
    refine ts_sld C hX0 hb0 hbA dL_law_1965 ?_
    refine ts_aload_n C dL_law_1966 rfl 3 rfl ?_
    refine ts_callW C [.ref (ts_ad g 154), ts_v (ts_xs xs (ts_w (y5 + 1))), .ref (ts_ad g 175)] (mL_isInTopBySets hl) kL_isInTopBySets q_1704 rfl rfl (Nat.le_of_ble_eq_true rfl) ⟨Nat.le_of_ble_eq_true rfl, Nat.le_of_ble_eq_true rfl⟩ ⟨by simp only [room_1]; omega, by simp only [room_1]; omega⟩ dL_law_1967 (fun r251 M250 => ?_)
    refine ts_istore C dL_law_1970 (by decide) (lv' := fun x252 => [(6, ts_v x252), (0, .ref b0), (1, .ref (ts_ad g 154)), (2, .ref (ts_ad g 164)), (3, .ref (ts_ad g 175)), (4, .ref (ts_ad g 176)), (5, ts_v y5)]) (fun _ => rfl) (fun x252 => ?_)
    refine ts_aload_n C dL_law_1972 rfl 3 rfl ?_
    refine ts_aload_n C dL_law_1973 rfl 1 rfl ?_
    refine ts_iload C dL_law_1974 6 rfl ?_
    refine ts_iconst C dL_law_1976 1 rfl ?_
    refine ts_iadd C dL_law_1977 ?_
    refine ts_sld C hX0 hb0 hbA dL_law_1978 ?_
    refine ts_callVi C [ts_v (ts_xs xs (ts_w (y5 + 1)))] (mX12_isInTopBySets hl) kX12_isInTopBySets q_2417 (by decide) shX12 rfl rfl rfl (Nat.le_of_ble_eq_true rfl) ⟨Nat.le_of_ble_eq_true rfl, Nat.le_of_ble_eq_true rfl⟩ ⟨by simp only [room_1]; omega, by simp only [room_1]; omega⟩ dL_law_1979 (fun r254 M253 => ?_)
    refine ts_istore C dL_law_1982 (by decide) (lv' := fun x255 => [(7, ts_v x255), (6, ts_v x252), (0, .ref b0), (1, .ref (ts_ad g 154)), (2, .ref (ts_ad g 164)), (3, .ref (ts_ad g 175)), (4, .ref (ts_ad g 176)), (5, ts_v y5)]) (fun _ => rfl) (fun x255 => ?_)
    refine ts_aload_n C dL_law_1984 rfl 4 rfl ?_
    refine ts_callVi C [] (mX12_thrown hl) kX12_thrown q_2022 (by decide) shX12 rfl rfl rfl (Nat.le_of_ble_eq_true rfl) ⟨Nat.le_of_ble_eq_true rfl, Nat.le_of_ble_eq_true rfl⟩ ⟨by simp only [room_1]; omega, by simp only [room_1]; omega⟩ dL_law_1985 (fun r257 M256 => ?_)
    refine ts_iload C dL_law_1988 1 rfl ?_
    refine ts_cmp_eq C rfl rfl 1995 dL_law_1990 rfl ?_ ?_
    · refine ts_iload C dL_law_1995 1 rfl ?_
      refine ts_cm0_ne C rfl 2019 dL_law_1997 rfl ?_ ?_
      · exact ts_sub [2, 3, 4, 5, 6, 7] rfl (H2019 n28 hn28 k28 hk28 _ _)
      · refine ts_aload_n C dL_law_2000 rfl 5 rfl ?_
        refine ts_iconst C dL_law_2001 0 rfl ?_
        refine ts_laldc C (by decide) shG175 tw_0 (by decide) dL_law_2002 ?_
        refine ts_iload C dL_law_2003 0 rfl ?_
        refine ts_cm0_eq C rfl 2012 dL_law_2005 rfl ?_ ?_
        · refine ts_lconst C dL_law_2012 0 rfl ?_
          exact ts_sub [2, 3, 4, 5, 6, 7] rfl (H2013 n28 hn28 k28 hk28 _ _ _ _)
        · refine ts_lconst C dL_law_2008 1 rfl ?_
          refine ts_goto C 2013 dL_law_2009 rfl ?_
          exact ts_sub [2, 3, 4, 5, 6, 7] rfl (H2013 n28 hn28 k28 hk28 _ _ _ _)
    · refine ts_iconst C dL_law_1993 0 rfl ?_
      exact hret dL_law_1994 (by omega) (by omega)
  have H2094 : ∀ (n28 : Nat) (hn28 : n28 + 1 ≤ 513) (k28 : Int → ts_M → Prop) (hk28 : ∀ (y5 : Int) (M : ts_M), k28 y5 M → ts_V p l e room_1 s m args below meth c g 9 (200 + (513 - n28) * 30) (4100 + (513 - n28) * 2100) Q0 28 [(0, .ref b0), (1, .ref (ts_ad g 154)), (2, .ref (ts_ad g 164)), (3, .ref (ts_ad g 175)), (4, .ref (ts_ad g 176)), (5, ts_v y5)] [] M) (y5 : Int) (M : ts_M), wL_law_B2094 L xs k28 Q y5 M → ts_V p l e room_1 s m args below meth c g 9 (200 + (513 - (n28 + 1)) * 30 + 1) (4100 + (513 - (n28 + 1)) * 2100 + 6) Q0 2094 [(0, .ref b0), (1, .ref (ts_ad g 154)), (2, .ref (ts_ad g 164)), (3, .ref (ts_ad g 175)), (4, .ref (ts_ad g 176)), (5, ts_v y5)] [] M := by
    intro n28 hn28 k28 hk28 y5 M
    unfold wL_law_B2094
    refine ts_goto C 2953 dL_law_2094 rfl ?_
    exact ts_wid (by omega) (by omega) (ts_sub [0, 1, 2, 3, 4, 5] rfl (H2953 n28 hn28 k28 hk28 _ _))
  have H2088 : ∀ (n28 : Nat) (hn28 : n28 + 1 ≤ 513) (k28 : Int → ts_M → Prop) (hk28 : ∀ (y5 : Int) (M : ts_M), k28 y5 M → ts_V p l e room_1 s m args below meth c g 9 (200 + (513 - n28) * 30) (4100 + (513 - n28) * 2100) Q0 28 [(0, .ref b0), (1, .ref (ts_ad g 154)), (2, .ref (ts_ad g 164)), (3, .ref (ts_ad g 175)), (4, .ref (ts_ad g 176)), (5, ts_v y5)] [] M) (y5 : Int) (z0 : Int64) (z1 : Int64) (M : ts_M), wL_law_B2088 L xs k28 Q y5 z0 z1 M → ts_V p l e room_1 s m args below meth c g 9 (200 + (513 - (n28 + 1)) * 30 + 1) (4100 + (513 - (n28 + 1)) * 2100 + 6) Q0 2088 [(0, .ref b0), (1, .ref (ts_ad g 154)), (2, .ref (ts_ad g 164)), (3, .ref (ts_ad g 175)), (4, .ref (ts_ad g 176)), (5, ts_v y5)] [.long z0, .long z1] M := by
    intro n28 hn28 k28 hk28 y5 z0 z1 M
    unfold wL_law_B2088
    refine ts_lcmp C dL_law_2088 ?_
    refine ts_lif_eq C 2094 dL_law_2089 rfl ?_ ?_
    · exact ts_sub [0, 1, 2, 3, 4, 5] rfl (H2094 n28 hn28 k28 hk28 _ _)
    · refine ts_iconst C dL_law_2092 0 rfl ?_
      exact hret dL_law_2093 (by omega) (by omega)
  have H2022 : ∀ (n28 : Nat) (hn28 : n28 + 1 ≤ 513) (k28 : Int → ts_M → Prop) (hk28 : ∀ (y5 : Int) (M : ts_M), k28 y5 M → ts_V p l e room_1 s m args below meth c g 9 (200 + (513 - n28) * 30) (4100 + (513 - n28) * 2100) Q0 28 [(0, .ref b0), (1, .ref (ts_ad g 154)), (2, .ref (ts_ad g 164)), (3, .ref (ts_ad g 175)), (4, .ref (ts_ad g 176)), (5, ts_v y5)] [] M) (y5 : Int) (M : ts_M), wL_law_B2022 L xs k28 Q y5 M → ts_V p l e room_1 s m args below meth c g 9 (200 + (513 - (n28 + 1)) * 30) (4100 + (513 - (n28 + 1)) * 2100) Q0 2022 [(0, .ref b0), (1, .ref (ts_ad g 154)), (2, .ref (ts_ad g 164)), (3, .ref (ts_ad g 175)), (4, .ref (ts_ad g 176)), (5, ts_v y5)] [] M := by
    intro n28 hn28 k28 hk28 y5 M
    unfold wL_law_B2022
    refine ts_aload_n C dL_law_2022 rfl 1 rfl ?_
    refine ts_aload_n C dL_law_2023 rfl 0 rfl ?_
    refine ts_iload C dL_law_2024 5 rfl ?_
    refine ts_iconst C dL_law_2026 1 rfl ?_
    refine ts_iadd C dL_law_2027 ?_
    refine ts_sld C hX0 hb0 hbA dL_law_2028 ?_
    refine ts_aload_n C dL_law_2029 rfl 0 rfl ?_
    refine ts_iload C dL_law_2030 5 rfl ?_
    refine ts_iconst C dL_law_2032 2 rfl ?_
    refine ts_iadd C dL_law_2033 ?_
    refine ts_sld C hX0 hb0 hbA dL_law_2034 ?_
    refine ts_aload_n C dL_law_2035 rfl 3 rfl ?_
    refine ts_callW C [.ref (ts_ad g 154), ts_v (ts_xs xs (ts_w (y5 + 1))), ts_v (ts_xs xs (ts_w (y5 + 2))), .ref (ts_ad g 175)] (mL_isWet hl) kL_isWet q_1713 rfl rfl (Nat.le_of_ble_eq_true rfl) ⟨Nat.le_of_ble_eq_true rfl, Nat.le_of_ble_eq_true rfl⟩ ⟨by simp only [room_1]; omega, by simp only [room_1]; omega⟩ dL_law_2036 (fun r259 M258 => ?_)
    refine ts_istore C dL_law_2039 (by decide) (lv' := fun x260 => [(6, ts_v x260), (0, .ref b0), (1, .ref (ts_ad g 154)), (2, .ref (ts_ad g 164)), (3, .ref (ts_ad g 175)), (4, .ref (ts_ad g 176)), (5, ts_v y5)]) (fun _ => rfl) (fun x260 => ?_)
    refine ts_aload_n C dL_law_2041 rfl 3 rfl ?_
    refine ts_aload_n C dL_law_2042 rfl 1 rfl ?_
    refine ts_iload C dL_law_2043 6 rfl ?_
    refine ts_iconst C dL_law_2045 1 rfl ?_
    refine ts_iadd C dL_law_2046 ?_
    refine ts_sld C hX0 hb0 hbA dL_law_2047 ?_
    refine ts_aload_n C dL_law_2048 rfl 1 rfl ?_
    refine ts_iload C dL_law_2049 6 rfl ?_
    refine ts_iconst C dL_law_2051 2 rfl ?_
    refine ts_iadd C dL_law_2052 ?_
    refine ts_sld C hX0 hb0 hbA dL_law_2053 ?_
    refine ts_callVi C [ts_v (ts_xs xs (ts_w (y5 + 1))), ts_v (ts_xs xs (ts_w (y5 + 2)))] (mX12_isWet hl) kX12_isWet q_2422 (by decide) shX12 rfl rfl rfl (Nat.le_of_ble_eq_true rfl) ⟨Nat.le_of_ble_eq_true rfl, Nat.le_of_ble_eq_true rfl⟩ ⟨by simp only [room_1]; omega, by simp only [room_1]; omega⟩ dL_law_2054 (fun r262 M261 => ?_)
    refine ts_istore C dL_law_2057 (by decide) (lv' := fun x263 => [(7, ts_v x263), (6, ts_v x260), (0, .ref b0), (1, .ref (ts_ad g 154)), (2, .ref (ts_ad g 164)), (3, .ref (ts_ad g 175)), (4, .ref (ts_ad g 176)), (5, ts_v y5)]) (fun _ => rfl) (fun x263 => ?_)
    refine ts_aload_n C dL_law_2059 rfl 4 rfl ?_
    refine ts_callVi C [] (mX12_thrown hl) kX12_thrown q_2022 (by decide) shX12 rfl rfl rfl (Nat.le_of_ble_eq_true rfl) ⟨Nat.le_of_ble_eq_true rfl, Nat.le_of_ble_eq_true rfl⟩ ⟨by simp only [room_1]; omega, by simp only [room_1]; omega⟩ dL_law_2060 (fun r265 M264 => ?_)
    refine ts_iload C dL_law_2063 1 rfl ?_
    refine ts_cmp_eq C rfl rfl 2070 dL_law_2065 rfl ?_ ?_
    · refine ts_iload C dL_law_2070 1 rfl ?_
      refine ts_cm0_ne C rfl 2094 dL_law_2072 rfl ?_ ?_
      · exact ts_sub [2, 3, 4, 5, 6, 7] rfl (H2094 n28 hn28 k28 hk28 _ _)
      · refine ts_aload_n C dL_law_2075 rfl 5 rfl ?_
        refine ts_iconst C dL_law_2076 0 rfl ?_
        refine ts_laldc C (by decide) shG175 tw_0 (by decide) dL_law_2077 ?_
        refine ts_iload C dL_law_2078 0 rfl ?_
        refine ts_cm0_eq C rfl 2087 dL_law_2080 rfl ?_ ?_
        · refine ts_lconst C dL_law_2087 0 rfl ?_
          exact ts_sub [2, 3, 4, 5, 6, 7] rfl (H2088 n28 hn28 k28 hk28 _ _ _ _)
        · refine ts_lconst C dL_law_2083 1 rfl ?_
          refine ts_goto C 2088 dL_law_2084 rfl ?_
          exact ts_sub [2, 3, 4, 5, 6, 7] rfl (H2088 n28 hn28 k28 hk28 _ _ _ _)
    · refine ts_iconst C dL_law_2068 0 rfl ?_
      exact hret dL_law_2069 (by omega) (by omega)
  have H2097 : ∀ (n28 : Nat) (hn28 : n28 + 1 ≤ 513) (k28 : Int → ts_M → Prop) (hk28 : ∀ (y5 : Int) (M : ts_M), k28 y5 M → ts_V p l e room_1 s m args below meth c g 9 (200 + (513 - n28) * 30) (4100 + (513 - n28) * 2100) Q0 28 [(0, .ref b0), (1, .ref (ts_ad g 154)), (2, .ref (ts_ad g 164)), (3, .ref (ts_ad g 175)), (4, .ref (ts_ad g 176)), (5, ts_v y5)] [] M) (y5 : Int) (M : ts_M), wL_law_B2097 L xs k28 Q y5 M → ts_V p l e room_1 s m args below meth c g 9 (200 + (513 - (n28 + 1)) * 30) (4100 + (513 - (n28 + 1)) * 2100) Q0 2097 [(0, .ref b0), (1, .ref (ts_ad g 154)), (2, .ref (ts_ad g 164)), (3, .ref (ts_ad g 175)), (4, .ref (ts_ad g 176)), (5, ts_v y5)] [] M := by
    intro n28 hn28 k28 hk28 y5 M
    unfold wL_law_B2097
    refine ts_aload_n C dL_law_2097 rfl 1 rfl ?_
    refine ts_callVi C [] (mX11_wetCells hl) kX11_wetCells q_527 (by decide) shX11 rfl rfl rfl (Nat.le_of_ble_eq_true rfl) ⟨Nat.le_of_ble_eq_true rfl, Nat.le_of_ble_eq_true rfl⟩ ⟨by simp only [room_1]; omega, by simp only [room_1]; omega⟩ dL_law_2098 (fun r267 M266 => ?_)
    refine ts_aload_n C dL_law_2101 rfl 2 rfl ?_
    refine ts_callVi C [] (mX12_wetCells hl) kX12_wetCells q_2426 (by decide) shX12 rfl rfl rfl (Nat.le_of_ble_eq_true rfl) ⟨Nat.le_of_ble_eq_true rfl, Nat.le_of_ble_eq_true rfl⟩ ⟨by simp only [room_1]; omega, by simp only [room_1]; omega⟩ dL_law_2102 (fun r269 M268 => ?_)
    refine ts_cmp_eq C rfl rfl 2953 dL_law_2105 rfl ?_ ?_
    · exact ts_wid (by omega) (by omega) (ts_sub [0, 1, 2, 3, 4, 5] rfl (H2953 n28 hn28 k28 hk28 _ _))
    · refine ts_iconst C dL_law_2108 0 rfl ?_
      exact hret dL_law_2109 (by omega) (by omega)
  have H2175 : ∀ (n28 : Nat) (hn28 : n28 + 1 ≤ 513) (k28 : Int → ts_M → Prop) (hk28 : ∀ (y5 : Int) (M : ts_M), k28 y5 M → ts_V p l e room_1 s m args below meth c g 9 (200 + (513 - n28) * 30) (4100 + (513 - n28) * 2100) Q0 28 [(0, .ref b0), (1, .ref (ts_ad g 154)), (2, .ref (ts_ad g 164)), (3, .ref (ts_ad g 175)), (4, .ref (ts_ad g 176)), (5, ts_v y5)] [] M) (y5 : Int) (M : ts_M), wL_law_B2175 L xs k28 Q y5 M → ts_V p l e room_1 s m args below meth c g 9 (200 + (513 - (n28 + 1)) * 30 + 1) (4100 + (513 - (n28 + 1)) * 2100 + 6) Q0 2175 [(0, .ref b0), (1, .ref (ts_ad g 154)), (2, .ref (ts_ad g 164)), (3, .ref (ts_ad g 175)), (4, .ref (ts_ad g 176)), (5, ts_v y5)] [] M := by
    intro n28 hn28 k28 hk28 y5 M
    unfold wL_law_B2175
    refine ts_goto C 2953 dL_law_2175 rfl ?_
    exact ts_wid (by omega) (by omega) (ts_sub [0, 1, 2, 3, 4, 5] rfl (H2953 n28 hn28 k28 hk28 _ _))
  have H2110 : ∀ (n28 : Nat) (hn28 : n28 + 1 ≤ 513) (k28 : Int → ts_M → Prop) (hk28 : ∀ (y5 : Int) (M : ts_M), k28 y5 M → ts_V p l e room_1 s m args below meth c g 9 (200 + (513 - n28) * 30) (4100 + (513 - n28) * 2100) Q0 28 [(0, .ref b0), (1, .ref (ts_ad g 154)), (2, .ref (ts_ad g 164)), (3, .ref (ts_ad g 175)), (4, .ref (ts_ad g 176)), (5, ts_v y5)] [] M) (y5 : Int) (M : ts_M), wL_law_B2110 L xs k28 Q y5 M → ts_V p l e room_1 s m args below meth c g 9 (200 + (513 - (n28 + 1)) * 30) (4100 + (513 - (n28 + 1)) * 2100) Q0 2110 [(0, .ref b0), (1, .ref (ts_ad g 154)), (2, .ref (ts_ad g 164)), (3, .ref (ts_ad g 175)), (4, .ref (ts_ad g 176)), (5, ts_v y5)] [] M := by
    intro n28 hn28 k28 hk28 y5 M
    unfold wL_law_B2110
    refine ts_aload_n C dL_law_2110 rfl 1 rfl ?_
    refine ts_aload_n C dL_law_2111 rfl 0 rfl ?_
    refine ts_iload C dL_law_2112 5 rfl ?_
    refine ts_iconst C dL_law_2114 1 rfl ?_
    refine ts_iadd C dL_law_2115 ?_
    refine ts_sld C hX0 hb0 hbA dL_law_2116 ?_
    refine ts_aload_n C dL_law_2117 rfl 0 rfl ?_
    refine ts_iload C dL_law_2118 5 rfl ?_
    refine ts_iconst C dL_law_2120 2 rfl ?_
    refine ts_iadd C dL_law_2121 ?_
    refine ts_sld C hX0 hb0 hbA dL_law_2122 ?_
    refine ts_aload_n C dL_law_2123 rfl 3 rfl ?_
    refine ts_callW C [.ref (ts_ad g 154), ts_v (ts_xs xs (ts_w (y5 + 1))), ts_v (ts_xs xs (ts_w (y5 + 2))), .ref (ts_ad g 175)] (mL_puddle hl) kL_puddle q_1727 rfl rfl (Nat.le_of_ble_eq_true rfl) ⟨Nat.le_of_ble_eq_true rfl, Nat.le_of_ble_eq_true rfl⟩ ⟨by simp only [room_1]; omega, by simp only [room_1]; omega⟩ dL_law_2124 (fun r271 M270 => ?_)
    refine ts_istore C dL_law_2127 (by decide) (lv' := fun x272 => [(6, ts_v x272), (0, .ref b0), (1, .ref (ts_ad g 154)), (2, .ref (ts_ad g 164)), (3, .ref (ts_ad g 175)), (4, .ref (ts_ad g 176)), (5, ts_v y5)]) (fun _ => rfl) (fun x272 => ?_)
    refine ts_aload_n C dL_law_2129 rfl 3 rfl ?_
    refine ts_aload_n C dL_law_2130 rfl 1 rfl ?_
    refine ts_iload C dL_law_2131 6 rfl ?_
    refine ts_iconst C dL_law_2133 1 rfl ?_
    refine ts_iadd C dL_law_2134 ?_
    refine ts_sld C hX0 hb0 hbA dL_law_2135 ?_
    refine ts_aload_n C dL_law_2136 rfl 1 rfl ?_
    refine ts_iload C dL_law_2137 6 rfl ?_
    refine ts_iconst C dL_law_2139 2 rfl ?_
    refine ts_iadd C dL_law_2140 ?_
    refine ts_sld C hX0 hb0 hbA dL_law_2141 ?_
    refine ts_callVi C [ts_v (ts_xs xs (ts_w (y5 + 1))), ts_v (ts_xs xs (ts_w (y5 + 2)))] (mX12_puddle hl) kX12_puddle q_2430 (by decide) shX12 rfl rfl rfl (Nat.le_of_ble_eq_true rfl) ⟨Nat.le_of_ble_eq_true rfl, Nat.le_of_ble_eq_true rfl⟩ ⟨by simp only [room_1]; omega, by simp only [room_1]; omega⟩ dL_law_2142 (fun r274 M273 => ?_)
    refine ts_istore C dL_law_2145 (by decide) (lv' := fun x275 => [(7, ts_v x275), (6, ts_v x272), (0, .ref b0), (1, .ref (ts_ad g 154)), (2, .ref (ts_ad g 164)), (3, .ref (ts_ad g 175)), (4, .ref (ts_ad g 176)), (5, ts_v y5)]) (fun _ => rfl) (fun x275 => ?_)
    refine ts_aload_n C dL_law_2147 rfl 4 rfl ?_
    refine ts_callVi C [] (mX12_thrown hl) kX12_thrown q_2022 (by decide) shX12 rfl rfl rfl (Nat.le_of_ble_eq_true rfl) ⟨Nat.le_of_ble_eq_true rfl, Nat.le_of_ble_eq_true rfl⟩ ⟨by simp only [room_1]; omega, by simp only [room_1]; omega⟩ dL_law_2148 (fun r277 M276 => ?_)
    refine ts_iload C dL_law_2151 1 rfl ?_
    refine ts_cmp_eq C rfl rfl 2158 dL_law_2153 rfl ?_ ?_
    · refine ts_iload C dL_law_2158 1 rfl ?_
      refine ts_cm0_ne C rfl 2175 dL_law_2160 rfl ?_ ?_
      · exact ts_sub [2, 3, 4, 5, 6, 7] rfl (H2175 n28 hn28 k28 hk28 _ _)
      · refine ts_aload_n C dL_law_2163 rfl 5 rfl ?_
        refine ts_iconst C dL_law_2164 0 rfl ?_
        refine ts_laldc C (by decide) shG175 tw_0 (by decide) dL_law_2165 ?_
        refine ts_iload C dL_law_2166 0 rfl ?_
        refine ts_i2l C dL_law_2168 ?_
        refine ts_lcmp C dL_law_2169 ?_
        refine ts_lif_eq C 2175 dL_law_2170 rfl ?_ ?_
        · exact ts_sub [2, 3, 4, 5, 6, 7] rfl (H2175 n28 hn28 k28 hk28 _ _)
        · refine ts_iconst C dL_law_2173 0 rfl ?_
          exact hret dL_law_2174 (by omega) (by omega)
    · refine ts_iconst C dL_law_2156 0 rfl ?_
      exact hret dL_law_2157 (by omega) (by omega)
  have H2243 : ∀ (n28 : Nat) (hn28 : n28 + 1 ≤ 513) (k28 : Int → ts_M → Prop) (hk28 : ∀ (y5 : Int) (M : ts_M), k28 y5 M → ts_V p l e room_1 s m args below meth c g 9 (200 + (513 - n28) * 30) (4100 + (513 - n28) * 2100) Q0 28 [(0, .ref b0), (1, .ref (ts_ad g 154)), (2, .ref (ts_ad g 164)), (3, .ref (ts_ad g 175)), (4, .ref (ts_ad g 176)), (5, ts_v y5)] [] M) (y5 : Int) (M : ts_M), wL_law_B2243 L xs k28 Q y5 M → ts_V p l e room_1 s m args below meth c g 9 (200 + (513 - (n28 + 1)) * 30 + 1) (4100 + (513 - (n28 + 1)) * 2100 + 6) Q0 2243 [(0, .ref b0), (1, .ref (ts_ad g 154)), (2, .ref (ts_ad g 164)), (3, .ref (ts_ad g 175)), (4, .ref (ts_ad g 176)), (5, ts_v y5)] [] M := by
    intro n28 hn28 k28 hk28 y5 M
    unfold wL_law_B2243
    refine ts_goto C 2953 dL_law_2243 rfl ?_
    exact ts_wid (by omega) (by omega) (ts_sub [0, 1, 2, 3, 4, 5] rfl (H2953 n28 hn28 k28 hk28 _ _))
  have H2178 : ∀ (n28 : Nat) (hn28 : n28 + 1 ≤ 513) (k28 : Int → ts_M → Prop) (hk28 : ∀ (y5 : Int) (M : ts_M), k28 y5 M → ts_V p l e room_1 s m args below meth c g 9 (200 + (513 - n28) * 30) (4100 + (513 - n28) * 2100) Q0 28 [(0, .ref b0), (1, .ref (ts_ad g 154)), (2, .ref (ts_ad g 164)), (3, .ref (ts_ad g 175)), (4, .ref (ts_ad g 176)), (5, ts_v y5)] [] M) (y5 : Int) (M : ts_M), wL_law_B2178 L xs k28 Q y5 M → ts_V p l e room_1 s m args below meth c g 9 (200 + (513 - (n28 + 1)) * 30) (4100 + (513 - (n28 + 1)) * 2100) Q0 2178 [(0, .ref b0), (1, .ref (ts_ad g 154)), (2, .ref (ts_ad g 164)), (3, .ref (ts_ad g 175)), (4, .ref (ts_ad g 176)), (5, ts_v y5)] [] M := by
    intro n28 hn28 k28 hk28 y5 M
    unfold wL_law_B2178
    refine ts_aload_n C dL_law_2178 rfl 1 rfl ?_
    refine ts_aload_n C dL_law_2179 rfl 0 rfl ?_
    refine ts_iload C dL_law_2180 5 rfl ?_
    refine ts_iconst C dL_law_2182 1 rfl ?_
    refine ts_iadd C dL_law_2183 ?_
    refine ts_sld C hX0 hb0 hbA dL_law_2184 ?_
    refine ts_aload_n C dL_law_2185 rfl 0 rfl ?_
    refine ts_iload C dL_law_2186 5 rfl ?_
    refine ts_iconst C dL_law_2188 2 rfl ?_
    refine ts_iadd C dL_law_2189 ?_
    refine ts_sld C hX0 hb0 hbA dL_law_2190 ?_
    refine ts_aload_n C dL_law_2191 rfl 3 rfl ?_
    refine ts_callW C [.ref (ts_ad g 154), ts_v (ts_xs xs (ts_w (y5 + 1))), ts_v (ts_xs xs (ts_w (y5 + 2))), .ref (ts_ad g 175)] (mL_puddleByGroups hl) kL_puddleByGroups q_1736 rfl rfl (Nat.le_of_ble_eq_true rfl) ⟨Nat.le_of_ble_eq_true rfl, Nat.le_of_ble_eq_true rfl⟩ ⟨by simp only [room_1]; omega, by simp only [room_1]; omega⟩ dL_law_2192 (fun r279 M278 => ?_)
    refine ts_istore C dL_law_2195 (by decide) (lv' := fun x280 => [(6, ts_v x280), (0, .ref b0), (1, .ref (ts_ad g 154)), (2, .ref (ts_ad g 164)), (3, .ref (ts_ad g 175)), (4, .ref (ts_ad g 176)), (5, ts_v y5)]) (fun _ => rfl) (fun x280 => ?_)
    refine ts_aload_n C dL_law_2197 rfl 3 rfl ?_
    refine ts_aload_n C dL_law_2198 rfl 1 rfl ?_
    refine ts_iload C dL_law_2199 6 rfl ?_
    refine ts_iconst C dL_law_2201 1 rfl ?_
    refine ts_iadd C dL_law_2202 ?_
    refine ts_sld C hX0 hb0 hbA dL_law_2203 ?_
    refine ts_aload_n C dL_law_2204 rfl 1 rfl ?_
    refine ts_iload C dL_law_2205 6 rfl ?_
    refine ts_iconst C dL_law_2207 2 rfl ?_
    refine ts_iadd C dL_law_2208 ?_
    refine ts_sld C hX0 hb0 hbA dL_law_2209 ?_
    refine ts_callVi C [ts_v (ts_xs xs (ts_w (y5 + 1))), ts_v (ts_xs xs (ts_w (y5 + 2)))] (mX12_puddleByGroups hl) kX12_puddleByGroups q_2434 (by decide) shX12 rfl rfl rfl (Nat.le_of_ble_eq_true rfl) ⟨Nat.le_of_ble_eq_true rfl, Nat.le_of_ble_eq_true rfl⟩ ⟨by simp only [room_1]; omega, by simp only [room_1]; omega⟩ dL_law_2210 (fun r282 M281 => ?_)
    refine ts_istore C dL_law_2213 (by decide) (lv' := fun x283 => [(7, ts_v x283), (6, ts_v x280), (0, .ref b0), (1, .ref (ts_ad g 154)), (2, .ref (ts_ad g 164)), (3, .ref (ts_ad g 175)), (4, .ref (ts_ad g 176)), (5, ts_v y5)]) (fun _ => rfl) (fun x283 => ?_)
    refine ts_aload_n C dL_law_2215 rfl 4 rfl ?_
    refine ts_callVi C [] (mX12_thrown hl) kX12_thrown q_2022 (by decide) shX12 rfl rfl rfl (Nat.le_of_ble_eq_true rfl) ⟨Nat.le_of_ble_eq_true rfl, Nat.le_of_ble_eq_true rfl⟩ ⟨by simp only [room_1]; omega, by simp only [room_1]; omega⟩ dL_law_2216 (fun r285 M284 => ?_)
    refine ts_iload C dL_law_2219 1 rfl ?_
    refine ts_cmp_eq C rfl rfl 2226 dL_law_2221 rfl ?_ ?_
    · refine ts_iload C dL_law_2226 1 rfl ?_
      refine ts_cm0_ne C rfl 2243 dL_law_2228 rfl ?_ ?_
      · exact ts_sub [2, 3, 4, 5, 6, 7] rfl (H2243 n28 hn28 k28 hk28 _ _)
      · refine ts_aload_n C dL_law_2231 rfl 5 rfl ?_
        refine ts_iconst C dL_law_2232 0 rfl ?_
        refine ts_laldc C (by decide) shG175 tw_0 (by decide) dL_law_2233 ?_
        refine ts_iload C dL_law_2234 0 rfl ?_
        refine ts_i2l C dL_law_2236 ?_
        refine ts_lcmp C dL_law_2237 ?_
        refine ts_lif_eq C 2243 dL_law_2238 rfl ?_ ?_
        · exact ts_sub [2, 3, 4, 5, 6, 7] rfl (H2243 n28 hn28 k28 hk28 _ _)
        · refine ts_iconst C dL_law_2241 0 rfl ?_
          exact hret dL_law_2242 (by omega) (by omega)
    · refine ts_iconst C dL_law_2224 0 rfl ?_
      exact hret dL_law_2225 (by omega) (by omega)
  have H2246 : ∀ (n28 : Nat) (hn28 : n28 + 1 ≤ 513) (k28 : Int → ts_M → Prop) (hk28 : ∀ (y5 : Int) (M : ts_M), k28 y5 M → ts_V p l e room_1 s m args below meth c g 9 (200 + (513 - n28) * 30) (4100 + (513 - n28) * 2100) Q0 28 [(0, .ref b0), (1, .ref (ts_ad g 154)), (2, .ref (ts_ad g 164)), (3, .ref (ts_ad g 175)), (4, .ref (ts_ad g 176)), (5, ts_v y5)] [] M) (y5 : Int) (M : ts_M), wL_law_B2246 L xs k28 Q y5 M → ts_V p l e room_1 s m args below meth c g 9 (200 + (513 - (n28 + 1)) * 30) (4100 + (513 - (n28 + 1)) * 2100) Q0 2246 [(0, .ref b0), (1, .ref (ts_ad g 154)), (2, .ref (ts_ad g 164)), (3, .ref (ts_ad g 175)), (4, .ref (ts_ad g 176)), (5, ts_v y5)] [] M := by
    intro n28 hn28 k28 hk28 y5 M
    unfold wL_law_B2246
    refine ts_aload_n C dL_law_2246 rfl 1 rfl ?_
    refine ts_callVi C [] (mX11_largestPuddle hl) kX11_largestPuddle q_537 (by decide) shX11 rfl rfl rfl (Nat.le_of_ble_eq_true rfl) ⟨Nat.le_of_ble_eq_true rfl, Nat.le_of_ble_eq_true rfl⟩ ⟨by simp only [room_1]; omega, by simp only [room_1]; omega⟩ dL_law_2247 (fun r287 M286 => ?_)
    refine ts_aload_n C dL_law_2250 rfl 2 rfl ?_
    refine ts_callVi C [] (mX12_largestPuddle hl) kX12_largestPuddle q_2439 (by decide) shX12 rfl rfl rfl (Nat.le_of_ble_eq_true rfl) ⟨Nat.le_of_ble_eq_true rfl, Nat.le_of_ble_eq_true rfl⟩ ⟨by simp only [room_1]; omega, by simp only [room_1]; omega⟩ dL_law_2251 (fun r289 M288 => ?_)
    refine ts_cmp_eq C rfl rfl 2953 dL_law_2254 rfl ?_ ?_
    · exact ts_wid (by omega) (by omega) (ts_sub [0, 1, 2, 3, 4, 5] rfl (H2953 n28 hn28 k28 hk28 _ _))
    · refine ts_iconst C dL_law_2257 0 rfl ?_
      exact hret dL_law_2258 (by omega) (by omega)
  have H2259 : ∀ (n28 : Nat) (hn28 : n28 + 1 ≤ 513) (k28 : Int → ts_M → Prop) (hk28 : ∀ (y5 : Int) (M : ts_M), k28 y5 M → ts_V p l e room_1 s m args below meth c g 9 (200 + (513 - n28) * 30) (4100 + (513 - n28) * 2100) Q0 28 [(0, .ref b0), (1, .ref (ts_ad g 154)), (2, .ref (ts_ad g 164)), (3, .ref (ts_ad g 175)), (4, .ref (ts_ad g 176)), (5, ts_v y5)] [] M) (y5 : Int) (M : ts_M), wL_law_B2259 L xs k28 Q y5 M → ts_V p l e room_1 s m args below meth c g 9 (200 + (513 - (n28 + 1)) * 30) (4100 + (513 - (n28 + 1)) * 2100) Q0 2259 [(0, .ref b0), (1, .ref (ts_ad g 154)), (2, .ref (ts_ad g 164)), (3, .ref (ts_ad g 175)), (4, .ref (ts_ad g 176)), (5, ts_v y5)] [] M := by
    intro n28 hn28 k28 hk28 y5 M
    unfold wL_law_B2259
    refine ts_aload_n C dL_law_2259 rfl 1 rfl ?_
    refine ts_callVi C [] (mX11_puddleCount hl) kX11_puddleCount q_562 (by decide) shX11 rfl rfl rfl (Nat.le_of_ble_eq_true rfl) ⟨Nat.le_of_ble_eq_true rfl, Nat.le_of_ble_eq_true rfl⟩ ⟨by simp only [room_1]; omega, by simp only [room_1]; omega⟩ dL_law_2260 (fun r291 M290 => ?_)
    refine ts_aload_n C dL_law_2263 rfl 2 rfl ?_
    refine ts_callVi C [] (mX12_puddleCount hl) kX12_puddleCount q_2443 (by decide) shX12 rfl rfl rfl (Nat.le_of_ble_eq_true rfl) ⟨Nat.le_of_ble_eq_true rfl, Nat.le_of_ble_eq_true rfl⟩ ⟨by simp only [room_1]; omega, by simp only [room_1]; omega⟩ dL_law_2264 (fun r293 M292 => ?_)
    refine ts_cmp_eq C rfl rfl 2953 dL_law_2267 rfl ?_ ?_
    · exact ts_wid (by omega) (by omega) (ts_sub [0, 1, 2, 3, 4, 5] rfl (H2953 n28 hn28 k28 hk28 _ _))
    · refine ts_iconst C dL_law_2270 0 rfl ?_
      exact hret dL_law_2271 (by omega) (by omega)
  have H2325 : ∀ (n28 : Nat) (hn28 : n28 + 1 ≤ 513) (k28 : Int → ts_M → Prop) (hk28 : ∀ (y5 : Int) (M : ts_M), k28 y5 M → ts_V p l e room_1 s m args below meth c g 9 (200 + (513 - n28) * 30) (4100 + (513 - n28) * 2100) Q0 28 [(0, .ref b0), (1, .ref (ts_ad g 154)), (2, .ref (ts_ad g 164)), (3, .ref (ts_ad g 175)), (4, .ref (ts_ad g 176)), (5, ts_v y5)] [] M) (y5 : Int) (M : ts_M), wL_law_B2325 L xs k28 Q y5 M → ts_V p l e room_1 s m args below meth c g 9 (200 + (513 - (n28 + 1)) * 30 + 1) (4100 + (513 - (n28 + 1)) * 2100 + 6) Q0 2325 [(0, .ref b0), (1, .ref (ts_ad g 154)), (2, .ref (ts_ad g 164)), (3, .ref (ts_ad g 175)), (4, .ref (ts_ad g 176)), (5, ts_v y5)] [] M := by
    intro n28 hn28 k28 hk28 y5 M
    unfold wL_law_B2325
    refine ts_goto C 2953 dL_law_2325 rfl ?_
    exact ts_wid (by omega) (by omega) (ts_sub [0, 1, 2, 3, 4, 5] rfl (H2953 n28 hn28 k28 hk28 _ _))
  have H2272 : ∀ (n28 : Nat) (hn28 : n28 + 1 ≤ 513) (k28 : Int → ts_M → Prop) (hk28 : ∀ (y5 : Int) (M : ts_M), k28 y5 M → ts_V p l e room_1 s m args below meth c g 9 (200 + (513 - n28) * 30) (4100 + (513 - n28) * 2100) Q0 28 [(0, .ref b0), (1, .ref (ts_ad g 154)), (2, .ref (ts_ad g 164)), (3, .ref (ts_ad g 175)), (4, .ref (ts_ad g 176)), (5, ts_v y5)] [] M) (y5 : Int) (M : ts_M), wL_law_B2272 L xs k28 Q y5 M → ts_V p l e room_1 s m args below meth c g 9 (200 + (513 - (n28 + 1)) * 30) (4100 + (513 - (n28 + 1)) * 2100) Q0 2272 [(0, .ref b0), (1, .ref (ts_ad g 154)), (2, .ref (ts_ad g 164)), (3, .ref (ts_ad g 175)), (4, .ref (ts_ad g 176)), (5, ts_v y5)] [] M := by
    intro n28 hn28 k28 hk28 y5 M
    unfold wL_law_B2272
    refine ts_aload_n C dL_law_2272 rfl 1 rfl ?_
    refine ts_aload_n C dL_law_2273 rfl 0 rfl ?_
    refine ts_iload C dL_law_2274 5 rfl ?_
    refine ts_iconst C dL_law_2276 1 rfl ?_
    refine ts_iadd C dL_law_2277 ?_
    refine ts_sld C hX0 hb0 hbA dL_law_2278 ?_
    refine ts_aload_n C dL_law_2279 rfl 3 rfl ?_
    refine ts_callW C [.ref (ts_ad g 154), ts_v (ts_xs xs (ts_w (y5 + 1))), .ref (ts_ad g 175)] (mL_spoonBySugar hl) kL_spoonBySugar q_1745 rfl rfl (Nat.le_of_ble_eq_true rfl) ⟨Nat.le_of_ble_eq_true rfl, Nat.le_of_ble_eq_true rfl⟩ ⟨by simp only [room_1]; omega, by simp only [room_1]; omega⟩ dL_law_2280 (fun r295 M294 => ?_)
    refine ts_istore C dL_law_2283 (by decide) (lv' := fun x296 => [(6, ts_v x296), (0, .ref b0), (1, .ref (ts_ad g 154)), (2, .ref (ts_ad g 164)), (3, .ref (ts_ad g 175)), (4, .ref (ts_ad g 176)), (5, ts_v y5)]) (fun _ => rfl) (fun x296 => ?_)
    refine ts_aload_n C dL_law_2285 rfl 3 rfl ?_
    refine ts_aload_n C dL_law_2286 rfl 1 rfl ?_
    refine ts_iload C dL_law_2287 6 rfl ?_
    refine ts_iconst C dL_law_2289 1 rfl ?_
    refine ts_iadd C dL_law_2290 ?_
    refine ts_sld C hX0 hb0 hbA dL_law_2291 ?_
    refine ts_callVi C [ts_v (ts_xs xs (ts_w (y5 + 1)))] (mX12_spoonBySugar hl) kX12_spoonBySugar q_2314 (by decide) shX12 rfl rfl rfl (Nat.le_of_ble_eq_true rfl) ⟨Nat.le_of_ble_eq_true rfl, Nat.le_of_ble_eq_true rfl⟩ ⟨by simp only [room_1]; omega, by simp only [room_1]; omega⟩ dL_law_2292 (fun r298 M297 => ?_)
    refine ts_istore C dL_law_2295 (by decide) (lv' := fun x299 => [(7, ts_v x299), (6, ts_v x296), (0, .ref b0), (1, .ref (ts_ad g 154)), (2, .ref (ts_ad g 164)), (3, .ref (ts_ad g 175)), (4, .ref (ts_ad g 176)), (5, ts_v y5)]) (fun _ => rfl) (fun x299 => ?_)
    refine ts_aload_n C dL_law_2297 rfl 4 rfl ?_
    refine ts_callVi C [] (mX12_thrown hl) kX12_thrown q_2022 (by decide) shX12 rfl rfl rfl (Nat.le_of_ble_eq_true rfl) ⟨Nat.le_of_ble_eq_true rfl, Nat.le_of_ble_eq_true rfl⟩ ⟨by simp only [room_1]; omega, by simp only [room_1]; omega⟩ dL_law_2298 (fun r301 M300 => ?_)
    refine ts_iload C dL_law_2301 1 rfl ?_
    refine ts_cmp_eq C rfl rfl 2308 dL_law_2303 rfl ?_ ?_
    · refine ts_iload C dL_law_2308 1 rfl ?_
      refine ts_cm0_ne C rfl 2325 dL_law_2310 rfl ?_ ?_
      · exact ts_sub [2, 3, 4, 5, 6, 7] rfl (H2325 n28 hn28 k28 hk28 _ _)
      · refine ts_aload_n C dL_law_2313 rfl 5 rfl ?_
        refine ts_iconst C dL_law_2314 0 rfl ?_
        refine ts_laldc C (by decide) shG175 tw_0 (by decide) dL_law_2315 ?_
        refine ts_iload C dL_law_2316 0 rfl ?_
        refine ts_i2l C dL_law_2318 ?_
        refine ts_lcmp C dL_law_2319 ?_
        refine ts_lif_eq C 2325 dL_law_2320 rfl ?_ ?_
        · exact ts_sub [2, 3, 4, 5, 6, 7] rfl (H2325 n28 hn28 k28 hk28 _ _)
        · refine ts_iconst C dL_law_2323 0 rfl ?_
          exact hret dL_law_2324 (by omega) (by omega)
    · refine ts_iconst C dL_law_2306 0 rfl ?_
      exact hret dL_law_2307 (by omega) (by omega)
  have H2328 : ∀ (n28 : Nat) (hn28 : n28 + 1 ≤ 513) (k28 : Int → ts_M → Prop) (hk28 : ∀ (y5 : Int) (M : ts_M), k28 y5 M → ts_V p l e room_1 s m args below meth c g 9 (200 + (513 - n28) * 30) (4100 + (513 - n28) * 2100) Q0 28 [(0, .ref b0), (1, .ref (ts_ad g 154)), (2, .ref (ts_ad g 164)), (3, .ref (ts_ad g 175)), (4, .ref (ts_ad g 176)), (5, ts_v y5)] [] M) (y5 : Int) (M : ts_M), wL_law_B2328 L xs k28 Q y5 M → ts_V p l e room_1 s m args below meth c g 9 (200 + (513 - (n28 + 1)) * 30) (4100 + (513 - (n28 + 1)) * 2100) Q0 2328 [(0, .ref b0), (1, .ref (ts_ad g 154)), (2, .ref (ts_ad g 164)), (3, .ref (ts_ad g 175)), (4, .ref (ts_ad g 176)), (5, ts_v y5)] [] M := by
    intro n28 hn28 k28 hk28 y5 M
    unfold wL_law_B2328
    refine ts_aload_n C dL_law_2328 rfl 1 rfl ?_
    refine ts_callVi C [] (mX11_minutesCount hl) kX11_minutesCount q_570 (by decide) shX11 rfl rfl rfl (Nat.le_of_ble_eq_true rfl) ⟨Nat.le_of_ble_eq_true rfl, Nat.le_of_ble_eq_true rfl⟩ ⟨by simp only [room_1]; omega, by simp only [room_1]; omega⟩ dL_law_2329 (fun r303 M302 => ?_)
    refine ts_aload_n C dL_law_2332 rfl 2 rfl ?_
    refine ts_callVi C [] (mX12_minutesCount hl) kX12_minutesCount q_2447 (by decide) shX12 rfl rfl rfl (Nat.le_of_ble_eq_true rfl) ⟨Nat.le_of_ble_eq_true rfl, Nat.le_of_ble_eq_true rfl⟩ ⟨by simp only [room_1]; omega, by simp only [room_1]; omega⟩ dL_law_2333 (fun r305 M304 => ?_)
    refine ts_cmp_eq C rfl rfl 2953 dL_law_2336 rfl ?_ ?_
    · exact ts_wid (by omega) (by omega) (ts_sub [0, 1, 2, 3, 4, 5] rfl (H2953 n28 hn28 k28 hk28 _ _))
    · refine ts_iconst C dL_law_2339 0 rfl ?_
      exact hret dL_law_2340 (by omega) (by omega)
  have H2394 : ∀ (n28 : Nat) (hn28 : n28 + 1 ≤ 513) (k28 : Int → ts_M → Prop) (hk28 : ∀ (y5 : Int) (M : ts_M), k28 y5 M → ts_V p l e room_1 s m args below meth c g 9 (200 + (513 - n28) * 30) (4100 + (513 - n28) * 2100) Q0 28 [(0, .ref b0), (1, .ref (ts_ad g 154)), (2, .ref (ts_ad g 164)), (3, .ref (ts_ad g 175)), (4, .ref (ts_ad g 176)), (5, ts_v y5)] [] M) (y5 : Int) (M : ts_M), wL_law_B2394 L xs k28 Q y5 M → ts_V p l e room_1 s m args below meth c g 9 (200 + (513 - (n28 + 1)) * 30 + 1) (4100 + (513 - (n28 + 1)) * 2100 + 6) Q0 2394 [(0, .ref b0), (1, .ref (ts_ad g 154)), (2, .ref (ts_ad g 164)), (3, .ref (ts_ad g 175)), (4, .ref (ts_ad g 176)), (5, ts_v y5)] [] M := by
    intro n28 hn28 k28 hk28 y5 M
    unfold wL_law_B2394
    refine ts_goto C 2953 dL_law_2394 rfl ?_
    exact ts_wid (by omega) (by omega) (ts_sub [0, 1, 2, 3, 4, 5] rfl (H2953 n28 hn28 k28 hk28 _ _))
  have H2341 : ∀ (n28 : Nat) (hn28 : n28 + 1 ≤ 513) (k28 : Int → ts_M → Prop) (hk28 : ∀ (y5 : Int) (M : ts_M), k28 y5 M → ts_V p l e room_1 s m args below meth c g 9 (200 + (513 - n28) * 30) (4100 + (513 - n28) * 2100) Q0 28 [(0, .ref b0), (1, .ref (ts_ad g 154)), (2, .ref (ts_ad g 164)), (3, .ref (ts_ad g 175)), (4, .ref (ts_ad g 176)), (5, ts_v y5)] [] M) (y5 : Int) (M : ts_M), wL_law_B2341 L xs k28 Q y5 M → ts_V p l e room_1 s m args below meth c g 9 (200 + (513 - (n28 + 1)) * 30) (4100 + (513 - (n28 + 1)) * 2100) Q0 2341 [(0, .ref b0), (1, .ref (ts_ad g 154)), (2, .ref (ts_ad g 164)), (3, .ref (ts_ad g 175)), (4, .ref (ts_ad g 176)), (5, ts_v y5)] [] M := by
    intro n28 hn28 k28 hk28 y5 M
    unfold wL_law_B2341
    refine ts_aload_n C dL_law_2341 rfl 1 rfl ?_
    refine ts_aload_n C dL_law_2342 rfl 0 rfl ?_
    refine ts_iload C dL_law_2343 5 rfl ?_
    refine ts_iconst C dL_law_2345 1 rfl ?_
    refine ts_iadd C dL_law_2346 ?_
    refine ts_sld C hX0 hb0 hbA dL_law_2347 ?_
    refine ts_aload_n C dL_law_2348 rfl 3 rfl ?_
    refine ts_callW C [.ref (ts_ad g 154), ts_v (ts_xs xs (ts_w (y5 + 1))), .ref (ts_ad g 175)] (mL_minute hl) kL_minute q_1761 rfl rfl (Nat.le_of_ble_eq_true rfl) ⟨Nat.le_of_ble_eq_true rfl, Nat.le_of_ble_eq_true rfl⟩ ⟨by simp only [room_1]; omega, by simp only [room_1]; omega⟩ dL_law_2349 (fun r307 M306 => ?_)
    refine ts_istore C dL_law_2352 (by decide) (lv' := fun x308 => [(6, ts_v x308), (0, .ref b0), (1, .ref (ts_ad g 154)), (2, .ref (ts_ad g 164)), (3, .ref (ts_ad g 175)), (4, .ref (ts_ad g 176)), (5, ts_v y5)]) (fun _ => rfl) (fun x308 => ?_)
    refine ts_aload_n C dL_law_2354 rfl 3 rfl ?_
    refine ts_aload_n C dL_law_2355 rfl 1 rfl ?_
    refine ts_iload C dL_law_2356 6 rfl ?_
    refine ts_iconst C dL_law_2358 1 rfl ?_
    refine ts_iadd C dL_law_2359 ?_
    refine ts_sld C hX0 hb0 hbA dL_law_2360 ?_
    refine ts_callVi C [ts_v (ts_xs xs (ts_w (y5 + 1)))] (mX12_minute hl) kX12_minute q_2451 (by decide) shX12 rfl rfl rfl (Nat.le_of_ble_eq_true rfl) ⟨Nat.le_of_ble_eq_true rfl, Nat.le_of_ble_eq_true rfl⟩ ⟨by simp only [room_1]; omega, by simp only [room_1]; omega⟩ dL_law_2361 (fun r310 M309 => ?_)
    refine ts_istore C dL_law_2364 (by decide) (lv' := fun x311 => [(7, ts_v x311), (6, ts_v x308), (0, .ref b0), (1, .ref (ts_ad g 154)), (2, .ref (ts_ad g 164)), (3, .ref (ts_ad g 175)), (4, .ref (ts_ad g 176)), (5, ts_v y5)]) (fun _ => rfl) (fun x311 => ?_)
    refine ts_aload_n C dL_law_2366 rfl 4 rfl ?_
    refine ts_callVi C [] (mX12_thrown hl) kX12_thrown q_2022 (by decide) shX12 rfl rfl rfl (Nat.le_of_ble_eq_true rfl) ⟨Nat.le_of_ble_eq_true rfl, Nat.le_of_ble_eq_true rfl⟩ ⟨by simp only [room_1]; omega, by simp only [room_1]; omega⟩ dL_law_2367 (fun r313 M312 => ?_)
    refine ts_iload C dL_law_2370 1 rfl ?_
    refine ts_cmp_eq C rfl rfl 2377 dL_law_2372 rfl ?_ ?_
    · refine ts_iload C dL_law_2377 1 rfl ?_
      refine ts_cm0_ne C rfl 2394 dL_law_2379 rfl ?_ ?_
      · exact ts_sub [2, 3, 4, 5, 6, 7] rfl (H2394 n28 hn28 k28 hk28 _ _)
      · refine ts_aload_n C dL_law_2382 rfl 5 rfl ?_
        refine ts_iconst C dL_law_2383 0 rfl ?_
        refine ts_laldc C (by decide) shG175 tw_0 (by decide) dL_law_2384 ?_
        refine ts_iload C dL_law_2385 0 rfl ?_
        refine ts_i2l C dL_law_2387 ?_
        refine ts_lcmp C dL_law_2388 ?_
        refine ts_lif_eq C 2394 dL_law_2389 rfl ?_ ?_
        · exact ts_sub [2, 3, 4, 5, 6, 7] rfl (H2394 n28 hn28 k28 hk28 _ _)
        · refine ts_iconst C dL_law_2392 0 rfl ?_
          exact hret dL_law_2393 (by omega) (by omega)
    · refine ts_iconst C dL_law_2375 0 rfl ?_
      exact hret dL_law_2376 (by omega) (by omega)
  have H2397 : ∀ (n28 : Nat) (hn28 : n28 + 1 ≤ 513) (k28 : Int → ts_M → Prop) (hk28 : ∀ (y5 : Int) (M : ts_M), k28 y5 M → ts_V p l e room_1 s m args below meth c g 9 (200 + (513 - n28) * 30) (4100 + (513 - n28) * 2100) Q0 28 [(0, .ref b0), (1, .ref (ts_ad g 154)), (2, .ref (ts_ad g 164)), (3, .ref (ts_ad g 175)), (4, .ref (ts_ad g 176)), (5, ts_v y5)] [] M) (y5 : Int) (M : ts_M), wL_law_B2397 L xs k28 Q y5 M → ts_V p l e room_1 s m args below meth c g 9 (200 + (513 - (n28 + 1)) * 30) (4100 + (513 - (n28 + 1)) * 2100) Q0 2397 [(0, .ref b0), (1, .ref (ts_ad g 154)), (2, .ref (ts_ad g 164)), (3, .ref (ts_ad g 175)), (4, .ref (ts_ad g 176)), (5, ts_v y5)] [] M := by
    intro n28 hn28 k28 hk28 y5 M
    unfold wL_law_B2397
    refine ts_aload_n C dL_law_2397 rfl 1 rfl ?_
    refine ts_callVi C [] (mX11_sittings hl) kX11_sittings q_574 (by decide) shX11 rfl rfl rfl (Nat.le_of_ble_eq_true rfl) ⟨Nat.le_of_ble_eq_true rfl, Nat.le_of_ble_eq_true rfl⟩ ⟨by simp only [room_1]; omega, by simp only [room_1]; omega⟩ dL_law_2398 (fun r315 M314 => ?_)
    refine ts_aload_n C dL_law_2401 rfl 2 rfl ?_
    refine ts_callVi C [] (mX12_sittings hl) kX12_sittings q_2455 (by decide) shX12 rfl rfl rfl (Nat.le_of_ble_eq_true rfl) ⟨Nat.le_of_ble_eq_true rfl, Nat.le_of_ble_eq_true rfl⟩ ⟨by simp only [room_1]; omega, by simp only [room_1]; omega⟩ dL_law_2402 (fun r317 M316 => ?_)
    refine ts_cmp_eq C rfl rfl 2953 dL_law_2405 rfl ?_ ?_
    · exact ts_wid (by omega) (by omega) (ts_sub [0, 1, 2, 3, 4, 5] rfl (H2953 n28 hn28 k28 hk28 _ _))
    · refine ts_iconst C dL_law_2408 0 rfl ?_
      exact hret dL_law_2409 (by omega) (by omega)
  have H2410 : ∀ (n28 : Nat) (hn28 : n28 + 1 ≤ 513) (k28 : Int → ts_M → Prop) (hk28 : ∀ (y5 : Int) (M : ts_M), k28 y5 M → ts_V p l e room_1 s m args below meth c g 9 (200 + (513 - n28) * 30) (4100 + (513 - n28) * 2100) Q0 28 [(0, .ref b0), (1, .ref (ts_ad g 154)), (2, .ref (ts_ad g 164)), (3, .ref (ts_ad g 175)), (4, .ref (ts_ad g 176)), (5, ts_v y5)] [] M) (y5 : Int) (M : ts_M), wL_law_B2410 L xs k28 Q y5 M → ts_V p l e room_1 s m args below meth c g 9 (200 + (513 - (n28 + 1)) * 30) (4100 + (513 - (n28 + 1)) * 2100) Q0 2410 [(0, .ref b0), (1, .ref (ts_ad g 154)), (2, .ref (ts_ad g 164)), (3, .ref (ts_ad g 175)), (4, .ref (ts_ad g 176)), (5, ts_v y5)] [] M := by
    intro n28 hn28 k28 hk28 y5 M
    unfold wL_law_B2410
    refine ts_aload_n C dL_law_2410 rfl 1 rfl ?_
    refine ts_callVi C [] (mX11_sugarTotal hl) kX11_sugarTotal q_578 (by decide) shX11 rfl rfl rfl (Nat.le_of_ble_eq_true rfl) ⟨Nat.le_of_ble_eq_true rfl, Nat.le_of_ble_eq_true rfl⟩ ⟨by simp only [room_1]; omega, by simp only [room_1]; omega⟩ dL_law_2411 (fun r319 M318 => ?_)
    refine ts_aload_n C dL_law_2414 rfl 2 rfl ?_
    refine ts_callVi C [] (mX12_sugarTotal hl) kX12_sugarTotal q_2459 (by decide) shX12 rfl rfl rfl (Nat.le_of_ble_eq_true rfl) ⟨Nat.le_of_ble_eq_true rfl, Nat.le_of_ble_eq_true rfl⟩ ⟨by simp only [room_1]; omega, by simp only [room_1]; omega⟩ dL_law_2415 (fun r321 M320 => ?_)
    refine ts_cmp_eq C rfl rfl 2953 dL_law_2418 rfl ?_ ?_
    · exact ts_wid (by omega) (by omega) (ts_sub [0, 1, 2, 3, 4, 5] rfl (H2953 n28 hn28 k28 hk28 _ _))
    · refine ts_iconst C dL_law_2421 0 rfl ?_
      exact hret dL_law_2422 (by omega) (by omega)
  have H2423 : ∀ (n28 : Nat) (hn28 : n28 + 1 ≤ 513) (k28 : Int → ts_M → Prop) (hk28 : ∀ (y5 : Int) (M : ts_M), k28 y5 M → ts_V p l e room_1 s m args below meth c g 9 (200 + (513 - n28) * 30) (4100 + (513 - n28) * 2100) Q0 28 [(0, .ref b0), (1, .ref (ts_ad g 154)), (2, .ref (ts_ad g 164)), (3, .ref (ts_ad g 175)), (4, .ref (ts_ad g 176)), (5, ts_v y5)] [] M) (y5 : Int) (M : ts_M), wL_law_B2423 L xs k28 Q y5 M → ts_V p l e room_1 s m args below meth c g 9 (200 + (513 - (n28 + 1)) * 30) (4100 + (513 - (n28 + 1)) * 2100) Q0 2423 [(0, .ref b0), (1, .ref (ts_ad g 154)), (2, .ref (ts_ad g 164)), (3, .ref (ts_ad g 175)), (4, .ref (ts_ad g 176)), (5, ts_v y5)] [] M := by
    intro n28 hn28 k28 hk28 y5 M
    unfold wL_law_B2423
    refine ts_aload_n C dL_law_2423 rfl 1 rfl ?_
    refine ts_callVi C [] (mX11_sugarByAccounts hl) kX11_sugarByAccounts q_590 (by decide) shX11 rfl rfl rfl (Nat.le_of_ble_eq_true rfl) ⟨Nat.le_of_ble_eq_true rfl, Nat.le_of_ble_eq_true rfl⟩ ⟨by simp only [room_1]; omega, by simp only [room_1]; omega⟩ dL_law_2424 (fun r323 M322 => ?_)
    refine ts_aload_n C dL_law_2427 rfl 2 rfl ?_
    refine ts_callVi C [] (mX12_sugarByAccounts hl) kX12_sugarByAccounts q_2463 (by decide) shX12 rfl rfl rfl (Nat.le_of_ble_eq_true rfl) ⟨Nat.le_of_ble_eq_true rfl, Nat.le_of_ble_eq_true rfl⟩ ⟨by simp only [room_1]; omega, by simp only [room_1]; omega⟩ dL_law_2428 (fun r325 M324 => ?_)
    refine ts_cmp_eq C rfl rfl 2953 dL_law_2431 rfl ?_ ?_
    · exact ts_wid (by omega) (by omega) (ts_sub [0, 1, 2, 3, 4, 5] rfl (H2953 n28 hn28 k28 hk28 _ _))
    · refine ts_iconst C dL_law_2434 0 rfl ?_
      exact hret dL_law_2435 (by omega) (by omega)
  have H2498 : ∀ (n28 : Nat) (hn28 : n28 + 1 ≤ 513) (k28 : Int → ts_M → Prop) (hk28 : ∀ (y5 : Int) (M : ts_M), k28 y5 M → ts_V p l e room_1 s m args below meth c g 9 (200 + (513 - n28) * 30) (4100 + (513 - n28) * 2100) Q0 28 [(0, .ref b0), (1, .ref (ts_ad g 154)), (2, .ref (ts_ad g 164)), (3, .ref (ts_ad g 175)), (4, .ref (ts_ad g 176)), (5, ts_v y5)] [] M) (y5 : Int) (M : ts_M), wL_law_B2498 L xs k28 Q y5 M → ts_V p l e room_1 s m args below meth c g 9 (200 + (513 - (n28 + 1)) * 30 + 1) (4100 + (513 - (n28 + 1)) * 2100 + 6) Q0 2498 [(0, .ref b0), (1, .ref (ts_ad g 154)), (2, .ref (ts_ad g 164)), (3, .ref (ts_ad g 175)), (4, .ref (ts_ad g 176)), (5, ts_v y5)] [] M := by
    intro n28 hn28 k28 hk28 y5 M
    unfold wL_law_B2498
    refine ts_goto C 2953 dL_law_2498 rfl ?_
    exact ts_wid (by omega) (by omega) (ts_sub [0, 1, 2, 3, 4, 5] rfl (H2953 n28 hn28 k28 hk28 _ _))
  have H2496 : ∀  (M : ts_M), wL_law_B2496 L xs  Q  M → ts_V p l e room_1 s m args below meth c g 9 15590 1081400 Q0 2496 [] [] M := by
    intro   M
    unfold wL_law_B2496
    refine ts_iconst C dL_law_2496 0 rfl ?_
    exact hret dL_law_2497 (by omega) (by omega)
  have H2436 : ∀ (n28 : Nat) (hn28 : n28 + 1 ≤ 513) (k28 : Int → ts_M → Prop) (hk28 : ∀ (y5 : Int) (M : ts_M), k28 y5 M → ts_V p l e room_1 s m args below meth c g 9 (200 + (513 - n28) * 30) (4100 + (513 - n28) * 2100) Q0 28 [(0, .ref b0), (1, .ref (ts_ad g 154)), (2, .ref (ts_ad g 164)), (3, .ref (ts_ad g 175)), (4, .ref (ts_ad g 176)), (5, ts_v y5)] [] M) (y5 : Int) (M : ts_M), wL_law_B2436 L xs k28 Q y5 M → ts_V p l e room_1 s m args below meth c g 9 (200 + (513 - (n28 + 1)) * 30) (4100 + (513 - (n28 + 1)) * 2100) Q0 2436 [(0, .ref b0), (1, .ref (ts_ad g 154)), (2, .ref (ts_ad g 164)), (3, .ref (ts_ad g 175)), (4, .ref (ts_ad g 176)), (5, ts_v y5)] [] M := by
    intro n28 hn28 k28 hk28 y5 M
    unfold wL_law_B2436
    refine ts_aload_n C dL_law_2436 rfl 1 rfl ?_
    refine ts_aload C dL_law_2437 4 rfl ?_
    refine ts_callW C [.ref (ts_ad g 154), .ref (ts_ad g 176)] (mL_meanStance hl) kL_meanStance q_1777 rfl rfl (Nat.le_of_ble_eq_true rfl) ⟨Nat.le_of_ble_eq_true rfl, Nat.le_of_ble_eq_true rfl⟩ ⟨by simp only [room_1]; omega, by simp only [room_1]; omega⟩ dL_law_2439 (fun r327 M326 => ?_)
    refine ts_istore C dL_law_2442 (by decide) (lv' := fun x328 => [(6, ts_v x328), (0, .ref b0), (1, .ref (ts_ad g 154)), (2, .ref (ts_ad g 164)), (3, .ref (ts_ad g 175)), (4, .ref (ts_ad g 176)), (5, ts_v y5)]) (fun _ => rfl) (fun x328 => ?_)
    refine ts_aload_n C dL_law_2444 rfl 3 rfl ?_
    refine ts_callVd C [] (mX12_meanStance hl) kX12_meanStance q_2467 (by decide) shX12 rfl rfl rfl (Nat.le_of_ble_eq_true rfl) ⟨Nat.le_of_ble_eq_true rfl, Nat.le_of_ble_eq_true rfl⟩ ⟨by simp only [room_1]; omega, by simp only [room_1]; omega⟩ dL_law_2445 (fun r330 M329 => ?_)
    refine ts_dstore C dL_law_2448 (by decide) (lv' := fun x331 => [(7, .double x331), (6, ts_v x328), (0, .ref b0), (1, .ref (ts_ad g 154)), (2, .ref (ts_ad g 164)), (3, .ref (ts_ad g 175)), (4, .ref (ts_ad g 176)), (5, ts_v y5)]) (fun _ => rfl) (fun x331 => ?_)
    refine ts_aload_n C dL_law_2450 rfl 4 rfl ?_
    refine ts_callVi C [] (mX12_thrown hl) kX12_thrown q_2022 (by decide) shX12 rfl rfl rfl (Nat.le_of_ble_eq_true rfl) ⟨Nat.le_of_ble_eq_true rfl, Nat.le_of_ble_eq_true rfl⟩ ⟨by simp only [room_1]; omega, by simp only [room_1]; omega⟩ dL_law_2451 (fun r333 M332 => ?_)
    refine ts_iload C dL_law_2454 1 rfl ?_
    refine ts_cmp_eq C rfl rfl 2461 dL_law_2456 rfl ?_ ?_
    · refine ts_iload C dL_law_2461 1 rfl ?_
      refine ts_cm0_ne C rfl 2498 dL_law_2463 rfl ?_ ?_
      · exact ts_sub [2, 3, 4, 5, 6, 7] rfl (H2498 n28 hn28 k28 hk28 _ _)
      · refine ts_aload C dL_law_2466 6 rfl ?_
        refine ts_iconst C dL_law_2468 0 rfl ?_
        refine ts_daldc C (by decide) shG176 tw_0 (by decide) dL_law_2469 ?_
        refine ts_dload C dL_law_2470 0 rfl ?_
        refine ts_dcmp C dL_law_2472 ?_
        refine ts_cm0_eq C rfl 2498 dL_law_2473 rfl ?_ ?_
        · exact ts_sub [2, 3, 4, 5, 6, 7] rfl (H2498 n28 hn28 k28 hk28 _ _)
        · refine ts_aload C dL_law_2476 6 rfl ?_
          refine ts_iconst C dL_law_2478 0 rfl ?_
          refine ts_daldc C (by decide) shG176 tw_0 (by decide) dL_law_2479 ?_
          refine ts_aload C dL_law_2480 6 rfl ?_
          refine ts_iconst C dL_law_2482 0 rfl ?_
          refine ts_daldc C (by decide) shG176 tw_0 (by decide) dL_law_2483 ?_
          refine ts_dcmp C dL_law_2484 ?_
          refine ts_cm0_eq C rfl 2496 dL_law_2485 rfl ?_ ?_
          · exact ts_wid (by omega) (by omega) (ts_sub [] rfl (H2496 _))
          · refine ts_dload C dL_law_2488 0 rfl ?_
            refine ts_dload C dL_law_2490 0 rfl ?_
            refine ts_dcmp C dL_law_2492 ?_
            refine ts_cm0_ne C rfl 2498 dL_law_2493 rfl ?_ ?_
            · exact ts_sub [2, 3, 4, 5, 6, 7] rfl (H2498 n28 hn28 k28 hk28 _ _)
            · exact ts_wid (by omega) (by omega) (ts_sub [] rfl (H2496 _))
    · refine ts_iconst C dL_law_2459 0 rfl ?_
      exact hret dL_law_2460 (by omega) (by omega)
  have H2564 : ∀ (n28 : Nat) (hn28 : n28 + 1 ≤ 513) (k28 : Int → ts_M → Prop) (hk28 : ∀ (y5 : Int) (M : ts_M), k28 y5 M → ts_V p l e room_1 s m args below meth c g 9 (200 + (513 - n28) * 30) (4100 + (513 - n28) * 2100) Q0 28 [(0, .ref b0), (1, .ref (ts_ad g 154)), (2, .ref (ts_ad g 164)), (3, .ref (ts_ad g 175)), (4, .ref (ts_ad g 176)), (5, ts_v y5)] [] M) (y5 : Int) (M : ts_M), wL_law_B2564 L xs k28 Q y5 M → ts_V p l e room_1 s m args below meth c g 9 (200 + (513 - (n28 + 1)) * 30 + 1) (4100 + (513 - (n28 + 1)) * 2100 + 6) Q0 2564 [(0, .ref b0), (1, .ref (ts_ad g 154)), (2, .ref (ts_ad g 164)), (3, .ref (ts_ad g 175)), (4, .ref (ts_ad g 176)), (5, ts_v y5)] [] M := by
    intro n28 hn28 k28 hk28 y5 M
    unfold wL_law_B2564
    refine ts_goto C 2953 dL_law_2564 rfl ?_
    exact ts_wid (by omega) (by omega) (ts_sub [0, 1, 2, 3, 4, 5] rfl (H2953 n28 hn28 k28 hk28 _ _))
  have H2562 : ∀  (M : ts_M), wL_law_B2562 L xs  Q  M → ts_V p l e room_1 s m args below meth c g 9 15590 1081400 Q0 2562 [] [] M := by
    intro   M
    unfold wL_law_B2562
    refine ts_iconst C dL_law_2562 0 rfl ?_
    exact hret dL_law_2563 (by omega) (by omega)
  have H2501 : ∀ (n28 : Nat) (hn28 : n28 + 1 ≤ 513) (k28 : Int → ts_M → Prop) (hk28 : ∀ (y5 : Int) (M : ts_M), k28 y5 M → ts_V p l e room_1 s m args below meth c g 9 (200 + (513 - n28) * 30) (4100 + (513 - n28) * 2100) Q0 28 [(0, .ref b0), (1, .ref (ts_ad g 154)), (2, .ref (ts_ad g 164)), (3, .ref (ts_ad g 175)), (4, .ref (ts_ad g 176)), (5, ts_v y5)] [] M) (y5 : Int) (M : ts_M), wL_law_B2501 L xs k28 Q y5 M → ts_V p l e room_1 s m args below meth c g 9 (200 + (513 - (n28 + 1)) * 30) (4100 + (513 - (n28 + 1)) * 2100) Q0 2501 [(0, .ref b0), (1, .ref (ts_ad g 154)), (2, .ref (ts_ad g 164)), (3, .ref (ts_ad g 175)), (4, .ref (ts_ad g 176)), (5, ts_v y5)] [] M := by
    intro n28 hn28 k28 hk28 y5 M
    unfold wL_law_B2501
    refine ts_aload_n C dL_law_2501 rfl 1 rfl ?_
    refine ts_aload C dL_law_2502 4 rfl ?_
    refine ts_callW C [.ref (ts_ad g 154), .ref (ts_ad g 176)] (mL_adoptedShare hl) kL_adoptedShare q_1805 rfl rfl (Nat.le_of_ble_eq_true rfl) ⟨Nat.le_of_ble_eq_true rfl, Nat.le_of_ble_eq_true rfl⟩ ⟨by simp only [room_1]; omega, by simp only [room_1]; omega⟩ dL_law_2504 (fun r335 M334 => ?_)
    refine ts_istore C dL_law_2507 (by decide) (lv' := fun x336 => [(6, ts_v x336), (0, .ref b0), (1, .ref (ts_ad g 154)), (2, .ref (ts_ad g 164)), (3, .ref (ts_ad g 175)), (4, .ref (ts_ad g 176)), (5, ts_v y5)]) (fun _ => rfl) (fun x336 => ?_)
    refine ts_aload_n C dL_law_2509 rfl 3 rfl ?_
    refine ts_callVf C [] (mX12_adoptedShare hl) kX12_adoptedShare q_2471 (by decide) shX12 rfl rfl rfl (Nat.le_of_ble_eq_true rfl) ⟨Nat.le_of_ble_eq_true rfl, Nat.le_of_ble_eq_true rfl⟩ ⟨by simp only [room_1]; omega, by simp only [room_1]; omega⟩ dL_law_2510 (fun r338 M337 => ?_)
    refine ts_fstore C dL_law_2513 (by decide) (lv' := fun x339 => [(7, .float x339), (6, ts_v x336), (0, .ref b0), (1, .ref (ts_ad g 154)), (2, .ref (ts_ad g 164)), (3, .ref (ts_ad g 175)), (4, .ref (ts_ad g 176)), (5, ts_v y5)]) (fun _ => rfl) (fun x339 => ?_)
    refine ts_aload_n C dL_law_2515 rfl 4 rfl ?_
    refine ts_callVi C [] (mX12_thrown hl) kX12_thrown q_2022 (by decide) shX12 rfl rfl rfl (Nat.le_of_ble_eq_true rfl) ⟨Nat.le_of_ble_eq_true rfl, Nat.le_of_ble_eq_true rfl⟩ ⟨by simp only [room_1]; omega, by simp only [room_1]; omega⟩ dL_law_2516 (fun r341 M340 => ?_)
    refine ts_iload C dL_law_2519 1 rfl ?_
    refine ts_cmp_eq C rfl rfl 2526 dL_law_2521 rfl ?_ ?_
    · refine ts_iload C dL_law_2526 1 rfl ?_
      refine ts_cm0_ne C rfl 2564 dL_law_2528 rfl ?_ ?_
      · exact ts_sub [2, 3, 4, 5, 6, 7] rfl (H2564 n28 hn28 k28 hk28 _ _)
      · refine ts_aload C dL_law_2531 6 rfl ?_
        refine ts_iconst C dL_law_2533 0 rfl ?_
        refine ts_daldc C (by decide) shG176 tw_0 (by decide) dL_law_2534 ?_
        refine ts_fload C dL_law_2535 0 rfl ?_
        refine ts_f2d C dL_law_2537 ?_
        refine ts_dcmp C dL_law_2538 ?_
        refine ts_cm0_eq C rfl 2564 dL_law_2539 rfl ?_ ?_
        · exact ts_sub [2, 3, 4, 5, 6, 7] rfl (H2564 n28 hn28 k28 hk28 _ _)
        · refine ts_aload C dL_law_2542 6 rfl ?_
          refine ts_iconst C dL_law_2544 0 rfl ?_
          refine ts_daldc C (by decide) shG176 tw_0 (by decide) dL_law_2545 ?_
          refine ts_aload C dL_law_2546 6 rfl ?_
          refine ts_iconst C dL_law_2548 0 rfl ?_
          refine ts_daldc C (by decide) shG176 tw_0 (by decide) dL_law_2549 ?_
          refine ts_dcmp C dL_law_2550 ?_
          refine ts_cm0_eq C rfl 2562 dL_law_2551 rfl ?_ ?_
          · exact ts_wid (by omega) (by omega) (ts_sub [] rfl (H2562 _))
          · refine ts_fload C dL_law_2554 0 rfl ?_
            refine ts_fload C dL_law_2556 0 rfl ?_
            refine ts_fcmp C dL_law_2558 ?_
            refine ts_cm0_ne C rfl 2564 dL_law_2559 rfl ?_ ?_
            · exact ts_sub [2, 3, 4, 5, 6, 7] rfl (H2564 n28 hn28 k28 hk28 _ _)
            · exact ts_wid (by omega) (by omega) (ts_sub [] rfl (H2562 _))
    · refine ts_iconst C dL_law_2524 0 rfl ?_
      exact hret dL_law_2525 (by omega) (by omega)
  have H2567 : ∀ (n28 : Nat) (hn28 : n28 + 1 ≤ 513) (k28 : Int → ts_M → Prop) (hk28 : ∀ (y5 : Int) (M : ts_M), k28 y5 M → ts_V p l e room_1 s m args below meth c g 9 (200 + (513 - n28) * 30) (4100 + (513 - n28) * 2100) Q0 28 [(0, .ref b0), (1, .ref (ts_ad g 154)), (2, .ref (ts_ad g 164)), (3, .ref (ts_ad g 175)), (4, .ref (ts_ad g 176)), (5, ts_v y5)] [] M) (y5 : Int) (M : ts_M), wL_law_B2567 L xs k28 Q y5 M → ts_V p l e room_1 s m args below meth c g 9 (200 + (513 - (n28 + 1)) * 30) (4100 + (513 - (n28 + 1)) * 2100) Q0 2567 [(0, .ref b0), (1, .ref (ts_ad g 154)), (2, .ref (ts_ad g 164)), (3, .ref (ts_ad g 175)), (4, .ref (ts_ad g 176)), (5, ts_v y5)] [] M := by
    intro n28 hn28 k28 hk28 y5 M
    unfold wL_law_B2567
    refine ts_aload_n C dL_law_2567 rfl 1 rfl ?_
    refine ts_callVi C [] (mX11_isConsistent hl) kX11_isConsistent q_598 (by decide) shX11 rfl rfl rfl (Nat.le_of_ble_eq_true rfl) ⟨Nat.le_of_ble_eq_true rfl, Nat.le_of_ble_eq_true rfl⟩ ⟨by simp only [room_1]; omega, by simp only [room_1]; omega⟩ dL_law_2568 (fun r343 M342 => ?_)
    refine ts_aload_n C dL_law_2571 rfl 2 rfl ?_
    refine ts_callVi C [] (mX12_isConsistent hl) kX12_isConsistent q_2475 (by decide) shX12 rfl rfl rfl (Nat.le_of_ble_eq_true rfl) ⟨Nat.le_of_ble_eq_true rfl, Nat.le_of_ble_eq_true rfl⟩ ⟨by simp only [room_1]; omega, by simp only [room_1]; omega⟩ dL_law_2572 (fun r345 M344 => ?_)
    refine ts_cmp_eq C rfl rfl 2953 dL_law_2575 rfl ?_ ?_
    · exact ts_wid (by omega) (by omega) (ts_sub [0, 1, 2, 3, 4, 5] rfl (H2953 n28 hn28 k28 hk28 _ _))
    · refine ts_iconst C dL_law_2578 0 rfl ?_
      exact hret dL_law_2579 (by omega) (by omega)
  have H2580 : ∀ (n28 : Nat) (hn28 : n28 + 1 ≤ 513) (k28 : Int → ts_M → Prop) (hk28 : ∀ (y5 : Int) (M : ts_M), k28 y5 M → ts_V p l e room_1 s m args below meth c g 9 (200 + (513 - n28) * 30) (4100 + (513 - n28) * 2100) Q0 28 [(0, .ref b0), (1, .ref (ts_ad g 154)), (2, .ref (ts_ad g 164)), (3, .ref (ts_ad g 175)), (4, .ref (ts_ad g 176)), (5, ts_v y5)] [] M) (y5 : Int) (M : ts_M), wL_law_B2580 L xs k28 Q y5 M → ts_V p l e room_1 s m args below meth c g 9 (200 + (513 - (n28 + 1)) * 30) (4100 + (513 - (n28 + 1)) * 2100) Q0 2580 [(0, .ref b0), (1, .ref (ts_ad g 154)), (2, .ref (ts_ad g 164)), (3, .ref (ts_ad g 175)), (4, .ref (ts_ad g 176)), (5, ts_v y5)] [] M := by
    intro n28 hn28 k28 hk28 y5 M
    unfold wL_law_B2580
    refine ts_aload_n C dL_law_2580 rfl 1 rfl ?_
    refine ts_callVi C [] (mX11_renderTable hl) kX11_renderTable q_655 (by decide) shX11 rfl rfl rfl (Nat.le_of_ble_eq_true rfl) ⟨Nat.le_of_ble_eq_true rfl, Nat.le_of_ble_eq_true rfl⟩ ⟨by simp only [room_1]; omega, by simp only [room_1]; omega⟩ dL_law_2581 (fun r347 M346 => ?_)
    refine ts_aload_n C dL_law_2584 rfl 2 rfl ?_
    refine ts_callVi C [] (mX12_renderTable hl) kX12_renderTable q_2481 (by decide) shX12 rfl rfl rfl (Nat.le_of_ble_eq_true rfl) ⟨Nat.le_of_ble_eq_true rfl, Nat.le_of_ble_eq_true rfl⟩ ⟨by simp only [room_1]; omega, by simp only [room_1]; omega⟩ dL_law_2585 (fun r349 M348 => ?_)
    refine ts_cmp_eq C rfl rfl 2953 dL_law_2588 rfl ?_ ?_
    · exact ts_wid (by omega) (by omega) (ts_sub [0, 1, 2, 3, 4, 5] rfl (H2953 n28 hn28 k28 hk28 _ _))
    · refine ts_iconst C dL_law_2591 0 rfl ?_
      exact hret dL_law_2592 (by omega) (by omega)
  have H2593 : ∀ (n28 : Nat) (hn28 : n28 + 1 ≤ 513) (k28 : Int → ts_M → Prop) (hk28 : ∀ (y5 : Int) (M : ts_M), k28 y5 M → ts_V p l e room_1 s m args below meth c g 9 (200 + (513 - n28) * 30) (4100 + (513 - n28) * 2100) Q0 28 [(0, .ref b0), (1, .ref (ts_ad g 154)), (2, .ref (ts_ad g 164)), (3, .ref (ts_ad g 175)), (4, .ref (ts_ad g 176)), (5, ts_v y5)] [] M) (y5 : Int) (M : ts_M), wL_law_B2593 L xs k28 Q y5 M → ts_V p l e room_1 s m args below meth c g 9 (200 + (513 - (n28 + 1)) * 30) (4100 + (513 - (n28 + 1)) * 2100) Q0 2593 [(0, .ref b0), (1, .ref (ts_ad g 154)), (2, .ref (ts_ad g 164)), (3, .ref (ts_ad g 175)), (4, .ref (ts_ad g 176)), (5, ts_v y5)] [] M := by
    intro n28 hn28 k28 hk28 y5 M
    unfold wL_law_B2593
    refine ts_aload_n C dL_law_2593 rfl 1 rfl ?_
    refine ts_callVi C [] (mX11_renderList hl) kX11_renderList q_1054 (by decide) shX11 rfl rfl rfl (Nat.le_of_ble_eq_true rfl) ⟨Nat.le_of_ble_eq_true rfl, Nat.le_of_ble_eq_true rfl⟩ ⟨by simp only [room_1]; omega, by simp only [room_1]; omega⟩ dL_law_2594 (fun r351 M350 => ?_)
    refine ts_aload_n C dL_law_2597 rfl 2 rfl ?_
    refine ts_callVi C [] (mX12_renderList hl) kX12_renderList q_2493 (by decide) shX12 rfl rfl rfl (Nat.le_of_ble_eq_true rfl) ⟨Nat.le_of_ble_eq_true rfl, Nat.le_of_ble_eq_true rfl⟩ ⟨by simp only [room_1]; omega, by simp only [room_1]; omega⟩ dL_law_2598 (fun r353 M352 => ?_)
    refine ts_cmp_eq C rfl rfl 2953 dL_law_2601 rfl ?_ ?_
    · exact ts_sub [0, 1, 2, 3, 4, 5] rfl (H2953 n28 hn28 k28 hk28 _ _)
    · refine ts_iconst C dL_law_2604 0 rfl ?_
      exact hret dL_law_2605 (by omega) (by omega)
  have H2659 : ∀ (n28 : Nat) (hn28 : n28 + 1 ≤ 513) (k28 : Int → ts_M → Prop) (hk28 : ∀ (y5 : Int) (M : ts_M), k28 y5 M → ts_V p l e room_1 s m args below meth c g 9 (200 + (513 - n28) * 30) (4100 + (513 - n28) * 2100) Q0 28 [(0, .ref b0), (1, .ref (ts_ad g 154)), (2, .ref (ts_ad g 164)), (3, .ref (ts_ad g 175)), (4, .ref (ts_ad g 176)), (5, ts_v y5)] [] M) (y5 : Int) (M : ts_M), wL_law_B2659 L xs k28 Q y5 M → ts_V p l e room_1 s m args below meth c g 9 (200 + (513 - (n28 + 1)) * 30 + 1) (4100 + (513 - (n28 + 1)) * 2100 + 6) Q0 2659 [(0, .ref b0), (1, .ref (ts_ad g 154)), (2, .ref (ts_ad g 164)), (3, .ref (ts_ad g 175)), (4, .ref (ts_ad g 176)), (5, ts_v y5)] [] M := by
    intro n28 hn28 k28 hk28 y5 M
    unfold wL_law_B2659
    refine ts_goto C 2953 dL_law_2659 rfl ?_
    exact ts_wid (by omega) (by omega) (ts_sub [0, 1, 2, 3, 4, 5] rfl (H2953 n28 hn28 k28 hk28 _ _))
  have H2606 : ∀ (n28 : Nat) (hn28 : n28 + 1 ≤ 513) (k28 : Int → ts_M → Prop) (hk28 : ∀ (y5 : Int) (M : ts_M), k28 y5 M → ts_V p l e room_1 s m args below meth c g 9 (200 + (513 - n28) * 30) (4100 + (513 - n28) * 2100) Q0 28 [(0, .ref b0), (1, .ref (ts_ad g 154)), (2, .ref (ts_ad g 164)), (3, .ref (ts_ad g 175)), (4, .ref (ts_ad g 176)), (5, ts_v y5)] [] M) (y5 : Int) (M : ts_M), wL_law_B2606 L xs k28 Q y5 M → ts_V p l e room_1 s m args below meth c g 9 (200 + (513 - (n28 + 1)) * 30) (4100 + (513 - (n28 + 1)) * 2100) Q0 2606 [(0, .ref b0), (1, .ref (ts_ad g 154)), (2, .ref (ts_ad g 164)), (3, .ref (ts_ad g 175)), (4, .ref (ts_ad g 176)), (5, ts_v y5)] [] M := by
    intro n28 hn28 k28 hk28 y5 M
    unfold wL_law_B2606
    refine ts_aload_n C dL_law_2606 rfl 1 rfl ?_
    refine ts_aload_n C dL_law_2607 rfl 0 rfl ?_
    refine ts_iload C dL_law_2608 5 rfl ?_
    refine ts_iconst C dL_law_2610 1 rfl ?_
    refine ts_iadd C dL_law_2611 ?_
    refine ts_sld C hX0 hb0 hbA dL_law_2612 ?_
    refine ts_aload_n C dL_law_2613 rfl 3 rfl ?_
    refine ts_callW C [.ref (ts_ad g 154), ts_v (ts_xs xs (ts_w (y5 + 1))), .ref (ts_ad g 175)] (mL_outputAt hl) kL_outputAt q_1813 rfl rfl (Nat.le_of_ble_eq_true rfl) ⟨Nat.le_of_ble_eq_true rfl, Nat.le_of_ble_eq_true rfl⟩ ⟨by simp only [room_1]; omega, by simp only [room_1]; omega⟩ dL_law_2614 (fun r355 M354 => ?_)
    refine ts_istore C dL_law_2617 (by decide) (lv' := fun x356 => [(6, ts_v x356), (0, .ref b0), (1, .ref (ts_ad g 154)), (2, .ref (ts_ad g 164)), (3, .ref (ts_ad g 175)), (4, .ref (ts_ad g 176)), (5, ts_v y5)]) (fun _ => rfl) (fun x356 => ?_)
    refine ts_aload_n C dL_law_2619 rfl 3 rfl ?_
    refine ts_aload_n C dL_law_2620 rfl 1 rfl ?_
    refine ts_iload C dL_law_2621 6 rfl ?_
    refine ts_iconst C dL_law_2623 1 rfl ?_
    refine ts_iadd C dL_law_2624 ?_
    refine ts_sld C hX0 hb0 hbA dL_law_2625 ?_
    refine ts_callVi C [ts_v (ts_xs xs (ts_w (y5 + 1)))] (mX12_outputAt hl) kX12_outputAt q_2497 (by decide) shX12 rfl rfl rfl (Nat.le_of_ble_eq_true rfl) ⟨Nat.le_of_ble_eq_true rfl, Nat.le_of_ble_eq_true rfl⟩ ⟨by simp only [room_1]; omega, by simp only [room_1]; omega⟩ dL_law_2626 (fun r358 M357 => ?_)
    refine ts_istore C dL_law_2629 (by decide) (lv' := fun x359 => [(7, ts_v x359), (6, ts_v x356), (0, .ref b0), (1, .ref (ts_ad g 154)), (2, .ref (ts_ad g 164)), (3, .ref (ts_ad g 175)), (4, .ref (ts_ad g 176)), (5, ts_v y5)]) (fun _ => rfl) (fun x359 => ?_)
    refine ts_aload_n C dL_law_2631 rfl 4 rfl ?_
    refine ts_callVi C [] (mX12_thrown hl) kX12_thrown q_2022 (by decide) shX12 rfl rfl rfl (Nat.le_of_ble_eq_true rfl) ⟨Nat.le_of_ble_eq_true rfl, Nat.le_of_ble_eq_true rfl⟩ ⟨by simp only [room_1]; omega, by simp only [room_1]; omega⟩ dL_law_2632 (fun r361 M360 => ?_)
    refine ts_iload C dL_law_2635 1 rfl ?_
    refine ts_cmp_eq C rfl rfl 2642 dL_law_2637 rfl ?_ ?_
    · refine ts_iload C dL_law_2642 1 rfl ?_
      refine ts_cm0_ne C rfl 2659 dL_law_2644 rfl ?_ ?_
      · exact ts_sub [2, 3, 4, 5, 6, 7] rfl (H2659 n28 hn28 k28 hk28 _ _)
      · refine ts_aload_n C dL_law_2647 rfl 5 rfl ?_
        refine ts_iconst C dL_law_2648 0 rfl ?_
        refine ts_laldc C (by decide) shG175 tw_0 (by decide) dL_law_2649 ?_
        refine ts_iload C dL_law_2650 0 rfl ?_
        refine ts_i2l C dL_law_2652 ?_
        refine ts_lcmp C dL_law_2653 ?_
        refine ts_lif_eq C 2659 dL_law_2654 rfl ?_ ?_
        · exact ts_sub [2, 3, 4, 5, 6, 7] rfl (H2659 n28 hn28 k28 hk28 _ _)
        · refine ts_iconst C dL_law_2657 0 rfl ?_
          exact hret dL_law_2658 (by omega) (by omega)
    · refine ts_iconst C dL_law_2640 0 rfl ?_
      exact hret dL_law_2641 (by omega) (by omega)
  have H2717 : ∀ (n28 : Nat) (hn28 : n28 + 1 ≤ 513) (k28 : Int → ts_M → Prop) (hk28 : ∀ (y5 : Int) (M : ts_M), k28 y5 M → ts_V p l e room_1 s m args below meth c g 9 (200 + (513 - n28) * 30) (4100 + (513 - n28) * 2100) Q0 28 [(0, .ref b0), (1, .ref (ts_ad g 154)), (2, .ref (ts_ad g 164)), (3, .ref (ts_ad g 175)), (4, .ref (ts_ad g 176)), (5, ts_v y5)] [] M) (y5 : Int) (M : ts_M), wL_law_B2717 L xs k28 Q y5 M → ts_V p l e room_1 s m args below meth c g 9 (200 + (513 - (n28 + 1)) * 30 + 1) (4100 + (513 - (n28 + 1)) * 2100 + 6) Q0 2717 [(0, .ref b0), (1, .ref (ts_ad g 154)), (2, .ref (ts_ad g 164)), (3, .ref (ts_ad g 175)), (4, .ref (ts_ad g 176)), (5, ts_v y5)] [] M := by
    intro n28 hn28 k28 hk28 y5 M
    unfold wL_law_B2717
    refine ts_goto C 2953 dL_law_2717 rfl ?_
    exact ts_wid (by omega) (by omega) (ts_sub [0, 1, 2, 3, 4, 5] rfl (H2953 n28 hn28 k28 hk28 _ _))
  have H2662 : ∀ (n28 : Nat) (hn28 : n28 + 1 ≤ 513) (k28 : Int → ts_M → Prop) (hk28 : ∀ (y5 : Int) (M : ts_M), k28 y5 M → ts_V p l e room_1 s m args below meth c g 9 (200 + (513 - n28) * 30) (4100 + (513 - n28) * 2100) Q0 28 [(0, .ref b0), (1, .ref (ts_ad g 154)), (2, .ref (ts_ad g 164)), (3, .ref (ts_ad g 175)), (4, .ref (ts_ad g 176)), (5, ts_v y5)] [] M) (y5 : Int) (M : ts_M), wL_law_B2662 L xs k28 Q y5 M → ts_V p l e room_1 s m args below meth c g 9 (200 + (513 - (n28 + 1)) * 30) (4100 + (513 - (n28 + 1)) * 2100) Q0 2662 [(0, .ref b0), (1, .ref (ts_ad g 154)), (2, .ref (ts_ad g 164)), (3, .ref (ts_ad g 175)), (4, .ref (ts_ad g 176)), (5, ts_v y5)] [] M := by
    intro n28 hn28 k28 hk28 y5 M
    unfold wL_law_B2662
    refine ts_aload_n C dL_law_2662 rfl 1 rfl ?_
    refine ts_aload_n C dL_law_2663 rfl 0 rfl ?_
    refine ts_iload C dL_law_2664 5 rfl ?_
    refine ts_iconst C dL_law_2666 1 rfl ?_
    refine ts_iadd C dL_law_2667 ?_
    refine ts_sld C hX0 hb0 hbA dL_law_2668 ?_
    refine ts_i2c0 C dL_law_2669 ?_
    refine ts_aload_n C dL_law_2670 rfl 3 rfl ?_
    refine ts_callW C [.ref (ts_ad g 154), ts_v (ts_i2c (ts_xs xs (ts_w (y5 + 1)))), .ref (ts_ad g 175)] (mL_type hl) kL_type q_1831 rfl rfl (Nat.le_of_ble_eq_true rfl) ⟨Nat.le_of_ble_eq_true rfl, Nat.le_of_ble_eq_true rfl⟩ ⟨by simp only [room_1]; omega, by simp only [room_1]; omega⟩ dL_law_2671 (fun r363 M362 => ?_)
    refine ts_istore C dL_law_2674 (by decide) (lv' := fun x364 => [(6, ts_v x364), (0, .ref b0), (1, .ref (ts_ad g 154)), (2, .ref (ts_ad g 164)), (3, .ref (ts_ad g 175)), (4, .ref (ts_ad g 176)), (5, ts_v y5)]) (fun _ => rfl) (fun x364 => ?_)
    refine ts_aload_n C dL_law_2676 rfl 3 rfl ?_
    refine ts_aload_n C dL_law_2677 rfl 1 rfl ?_
    refine ts_iload C dL_law_2678 6 rfl ?_
    refine ts_iconst C dL_law_2680 1 rfl ?_
    refine ts_iadd C dL_law_2681 ?_
    refine ts_sld C hX0 hb0 hbA dL_law_2682 ?_
    refine ts_i2c0 C dL_law_2683 ?_
    refine ts_callVi C [ts_v (ts_i2c (ts_xs xs (ts_w (y5 + 1))))] (mX12_type hl) kX12_type q_2501 (by decide) shX12 rfl rfl rfl (Nat.le_of_ble_eq_true rfl) ⟨Nat.le_of_ble_eq_true rfl, Nat.le_of_ble_eq_true rfl⟩ ⟨by simp only [room_1]; omega, by simp only [room_1]; omega⟩ dL_law_2684 (fun r366 M365 => ?_)
    refine ts_istore C dL_law_2687 (by decide) (lv' := fun x367 => [(7, ts_v x367), (6, ts_v x364), (0, .ref b0), (1, .ref (ts_ad g 154)), (2, .ref (ts_ad g 164)), (3, .ref (ts_ad g 175)), (4, .ref (ts_ad g 176)), (5, ts_v y5)]) (fun _ => rfl) (fun x367 => ?_)
    refine ts_aload_n C dL_law_2689 rfl 4 rfl ?_
    refine ts_callVi C [] (mX12_thrown hl) kX12_thrown q_2022 (by decide) shX12 rfl rfl rfl (Nat.le_of_ble_eq_true rfl) ⟨Nat.le_of_ble_eq_true rfl, Nat.le_of_ble_eq_true rfl⟩ ⟨by simp only [room_1]; omega, by simp only [room_1]; omega⟩ dL_law_2690 (fun r369 M368 => ?_)
    refine ts_iload C dL_law_2693 1 rfl ?_
    refine ts_cmp_eq C rfl rfl 2700 dL_law_2695 rfl ?_ ?_
    · refine ts_iload C dL_law_2700 1 rfl ?_
      refine ts_cm0_ne C rfl 2717 dL_law_2702 rfl ?_ ?_
      · exact ts_sub [2, 3, 4, 5, 6, 7] rfl (H2717 n28 hn28 k28 hk28 _ _)
      · refine ts_aload_n C dL_law_2705 rfl 5 rfl ?_
        refine ts_iconst C dL_law_2706 0 rfl ?_
        refine ts_laldc C (by decide) shG175 tw_0 (by decide) dL_law_2707 ?_
        refine ts_iload C dL_law_2708 0 rfl ?_
        refine ts_i2l C dL_law_2710 ?_
        refine ts_lcmp C dL_law_2711 ?_
        refine ts_lif_eq C 2717 dL_law_2712 rfl ?_ ?_
        · exact ts_sub [2, 3, 4, 5, 6, 7] rfl (H2717 n28 hn28 k28 hk28 _ _)
        · refine ts_iconst C dL_law_2715 0 rfl ?_
          exact hret dL_law_2716 (by omega) (by omega)
    · refine ts_iconst C dL_law_2698 0 rfl ?_
      exact hret dL_law_2699 (by omega) (by omega)
  have H2761 : ∀ (n28 : Nat) (hn28 : n28 + 1 ≤ 513) (k28 : Int → ts_M → Prop) (hk28 : ∀ (y5 : Int) (M : ts_M), k28 y5 M → ts_V p l e room_1 s m args below meth c g 9 (200 + (513 - n28) * 30) (4100 + (513 - n28) * 2100) Q0 28 [(0, .ref b0), (1, .ref (ts_ad g 154)), (2, .ref (ts_ad g 164)), (3, .ref (ts_ad g 175)), (4, .ref (ts_ad g 176)), (5, ts_v y5)] [] M) (y5 : Int) (M : ts_M), wL_law_B2761 L xs k28 Q y5 M → ts_V p l e room_1 s m args below meth c g 9 (200 + (513 - (n28 + 1)) * 30 + 1) (4100 + (513 - (n28 + 1)) * 2100 + 6) Q0 2761 [(0, .ref b0), (1, .ref (ts_ad g 154)), (2, .ref (ts_ad g 164)), (3, .ref (ts_ad g 175)), (4, .ref (ts_ad g 176)), (5, ts_v y5)] [] M := by
    intro n28 hn28 k28 hk28 y5 M
    unfold wL_law_B2761
    refine ts_goto C 2953 dL_law_2761 rfl ?_
    exact ts_wid (by omega) (by omega) (ts_sub [0, 1, 2, 3, 4, 5] rfl (H2953 n28 hn28 k28 hk28 _ _))
  have H2720 : ∀ (n28 : Nat) (hn28 : n28 + 1 ≤ 513) (k28 : Int → ts_M → Prop) (hk28 : ∀ (y5 : Int) (M : ts_M), k28 y5 M → ts_V p l e room_1 s m args below meth c g 9 (200 + (513 - n28) * 30) (4100 + (513 - n28) * 2100) Q0 28 [(0, .ref b0), (1, .ref (ts_ad g 154)), (2, .ref (ts_ad g 164)), (3, .ref (ts_ad g 175)), (4, .ref (ts_ad g 176)), (5, ts_v y5)] [] M) (y5 : Int) (M : ts_M), wL_law_B2720 L xs k28 Q y5 M → ts_V p l e room_1 s m args below meth c g 9 (200 + (513 - (n28 + 1)) * 30) (4100 + (513 - (n28 + 1)) * 2100) Q0 2720 [(0, .ref b0), (1, .ref (ts_ad g 154)), (2, .ref (ts_ad g 164)), (3, .ref (ts_ad g 175)), (4, .ref (ts_ad g 176)), (5, ts_v y5)] [] M := by
    intro n28 hn28 k28 hk28 y5 M
    unfold wL_law_B2720
    refine ts_aload_n C dL_law_2720 rfl 1 rfl ?_
    refine ts_aload_n C dL_law_2721 rfl 3 rfl ?_
    refine ts_callW C [.ref (ts_ad g 154), .ref (ts_ad g 175)] (mL_runScript hl) kL_runScript q_1848 rfl rfl (Nat.le_of_ble_eq_true rfl) ⟨Nat.le_of_ble_eq_true rfl, Nat.le_of_ble_eq_true rfl⟩ ⟨by simp only [room_1]; omega, by simp only [room_1]; omega⟩ dL_law_2722 (fun r371 M370 => ?_)
    refine ts_istore C dL_law_2725 (by decide) (lv' := fun x372 => [(6, ts_v x372), (0, .ref b0), (1, .ref (ts_ad g 154)), (2, .ref (ts_ad g 164)), (3, .ref (ts_ad g 175)), (4, .ref (ts_ad g 176)), (5, ts_v y5)]) (fun _ => rfl) (fun x372 => ?_)
    refine ts_aload_n C dL_law_2727 rfl 3 rfl ?_
    refine ts_callVi C [] (mX12_runScript hl) kX12_runScript q_2505 (by decide) shX12 rfl rfl rfl (Nat.le_of_ble_eq_true rfl) ⟨Nat.le_of_ble_eq_true rfl, Nat.le_of_ble_eq_true rfl⟩ ⟨by simp only [room_1]; omega, by simp only [room_1]; omega⟩ dL_law_2728 (fun r374 M373 => ?_)
    refine ts_istore C dL_law_2731 (by decide) (lv' := fun x375 => [(7, ts_v x375), (6, ts_v x372), (0, .ref b0), (1, .ref (ts_ad g 154)), (2, .ref (ts_ad g 164)), (3, .ref (ts_ad g 175)), (4, .ref (ts_ad g 176)), (5, ts_v y5)]) (fun _ => rfl) (fun x375 => ?_)
    refine ts_aload_n C dL_law_2733 rfl 4 rfl ?_
    refine ts_callVi C [] (mX12_thrown hl) kX12_thrown q_2022 (by decide) shX12 rfl rfl rfl (Nat.le_of_ble_eq_true rfl) ⟨Nat.le_of_ble_eq_true rfl, Nat.le_of_ble_eq_true rfl⟩ ⟨by simp only [room_1]; omega, by simp only [room_1]; omega⟩ dL_law_2734 (fun r377 M376 => ?_)
    refine ts_iload C dL_law_2737 1 rfl ?_
    refine ts_cmp_eq C rfl rfl 2744 dL_law_2739 rfl ?_ ?_
    · refine ts_iload C dL_law_2744 1 rfl ?_
      refine ts_cm0_ne C rfl 2761 dL_law_2746 rfl ?_ ?_
      · exact ts_sub [2, 3, 4, 5, 6, 7] rfl (H2761 n28 hn28 k28 hk28 _ _)
      · refine ts_aload_n C dL_law_2749 rfl 5 rfl ?_
        refine ts_iconst C dL_law_2750 0 rfl ?_
        refine ts_laldc C (by decide) shG175 tw_0 (by decide) dL_law_2751 ?_
        refine ts_iload C dL_law_2752 0 rfl ?_
        refine ts_i2l C dL_law_2754 ?_
        refine ts_lcmp C dL_law_2755 ?_
        refine ts_lif_eq C 2761 dL_law_2756 rfl ?_ ?_
        · exact ts_sub [2, 3, 4, 5, 6, 7] rfl (H2761 n28 hn28 k28 hk28 _ _)
        · refine ts_iconst C dL_law_2759 0 rfl ?_
          exact hret dL_law_2760 (by omega) (by omega)
    · refine ts_iconst C dL_law_2742 0 rfl ?_
      exact hret dL_law_2743 (by omega) (by omega)
  have H2805 : ∀ (n28 : Nat) (hn28 : n28 + 1 ≤ 513) (k28 : Int → ts_M → Prop) (hk28 : ∀ (y5 : Int) (M : ts_M), k28 y5 M → ts_V p l e room_1 s m args below meth c g 9 (200 + (513 - n28) * 30) (4100 + (513 - n28) * 2100) Q0 28 [(0, .ref b0), (1, .ref (ts_ad g 154)), (2, .ref (ts_ad g 164)), (3, .ref (ts_ad g 175)), (4, .ref (ts_ad g 176)), (5, ts_v y5)] [] M) (y5 : Int) (M : ts_M), wL_law_B2805 L xs k28 Q y5 M → ts_V p l e room_1 s m args below meth c g 9 (200 + (513 - (n28 + 1)) * 30 + 1) (4100 + (513 - (n28 + 1)) * 2100 + 6) Q0 2805 [(0, .ref b0), (1, .ref (ts_ad g 154)), (2, .ref (ts_ad g 164)), (3, .ref (ts_ad g 175)), (4, .ref (ts_ad g 176)), (5, ts_v y5)] [] M := by
    intro n28 hn28 k28 hk28 y5 M
    unfold wL_law_B2805
    refine ts_goto C 2953 dL_law_2805 rfl ?_
    exact ts_wid (by omega) (by omega) (ts_sub [0, 1, 2, 3, 4, 5] rfl (H2953 n28 hn28 k28 hk28 _ _))
  have H2764 : ∀ (n28 : Nat) (hn28 : n28 + 1 ≤ 513) (k28 : Int → ts_M → Prop) (hk28 : ∀ (y5 : Int) (M : ts_M), k28 y5 M → ts_V p l e room_1 s m args below meth c g 9 (200 + (513 - n28) * 30) (4100 + (513 - n28) * 2100) Q0 28 [(0, .ref b0), (1, .ref (ts_ad g 154)), (2, .ref (ts_ad g 164)), (3, .ref (ts_ad g 175)), (4, .ref (ts_ad g 176)), (5, ts_v y5)] [] M) (y5 : Int) (M : ts_M), wL_law_B2764 L xs k28 Q y5 M → ts_V p l e room_1 s m args below meth c g 9 (200 + (513 - (n28 + 1)) * 30) (4100 + (513 - (n28 + 1)) * 2100) Q0 2764 [(0, .ref b0), (1, .ref (ts_ad g 154)), (2, .ref (ts_ad g 164)), (3, .ref (ts_ad g 175)), (4, .ref (ts_ad g 176)), (5, ts_v y5)] [] M := by
    intro n28 hn28 k28 hk28 y5 M
    unfold wL_law_B2764
    refine ts_aload_n C dL_law_2764 rfl 1 rfl ?_
    refine ts_aload_n C dL_law_2765 rfl 3 rfl ?_
    refine ts_callW C [.ref (ts_ad g 154), .ref (ts_ad g 175)] (mL_errorPosition hl) kL_errorPosition q_1912 rfl rfl (Nat.le_of_ble_eq_true rfl) ⟨Nat.le_of_ble_eq_true rfl, Nat.le_of_ble_eq_true rfl⟩ ⟨by simp only [room_1]; omega, by simp only [room_1]; omega⟩ dL_law_2766 (fun r379 M378 => ?_)
    refine ts_istore C dL_law_2769 (by decide) (lv' := fun x380 => [(6, ts_v x380), (0, .ref b0), (1, .ref (ts_ad g 154)), (2, .ref (ts_ad g 164)), (3, .ref (ts_ad g 175)), (4, .ref (ts_ad g 176)), (5, ts_v y5)]) (fun _ => rfl) (fun x380 => ?_)
    refine ts_aload_n C dL_law_2771 rfl 3 rfl ?_
    refine ts_callVi C [] (mX12_errorPosition hl) kX12_errorPosition q_2573 (by decide) shX12 rfl rfl rfl (Nat.le_of_ble_eq_true rfl) ⟨Nat.le_of_ble_eq_true rfl, Nat.le_of_ble_eq_true rfl⟩ ⟨by simp only [room_1]; omega, by simp only [room_1]; omega⟩ dL_law_2772 (fun r382 M381 => ?_)
    refine ts_istore C dL_law_2775 (by decide) (lv' := fun x383 => [(7, ts_v x383), (6, ts_v x380), (0, .ref b0), (1, .ref (ts_ad g 154)), (2, .ref (ts_ad g 164)), (3, .ref (ts_ad g 175)), (4, .ref (ts_ad g 176)), (5, ts_v y5)]) (fun _ => rfl) (fun x383 => ?_)
    refine ts_aload_n C dL_law_2777 rfl 4 rfl ?_
    refine ts_callVi C [] (mX12_thrown hl) kX12_thrown q_2022 (by decide) shX12 rfl rfl rfl (Nat.le_of_ble_eq_true rfl) ⟨Nat.le_of_ble_eq_true rfl, Nat.le_of_ble_eq_true rfl⟩ ⟨by simp only [room_1]; omega, by simp only [room_1]; omega⟩ dL_law_2778 (fun r385 M384 => ?_)
    refine ts_iload C dL_law_2781 1 rfl ?_
    refine ts_cmp_eq C rfl rfl 2788 dL_law_2783 rfl ?_ ?_
    · refine ts_iload C dL_law_2788 1 rfl ?_
      refine ts_cm0_ne C rfl 2805 dL_law_2790 rfl ?_ ?_
      · exact ts_sub [2, 3, 4, 5, 6, 7] rfl (H2805 n28 hn28 k28 hk28 _ _)
      · refine ts_aload_n C dL_law_2793 rfl 5 rfl ?_
        refine ts_iconst C dL_law_2794 0 rfl ?_
        refine ts_laldc C (by decide) shG175 tw_0 (by decide) dL_law_2795 ?_
        refine ts_iload C dL_law_2796 0 rfl ?_
        refine ts_i2l C dL_law_2798 ?_
        refine ts_lcmp C dL_law_2799 ?_
        refine ts_lif_eq C 2805 dL_law_2800 rfl ?_ ?_
        · exact ts_sub [2, 3, 4, 5, 6, 7] rfl (H2805 n28 hn28 k28 hk28 _ _)
        · refine ts_iconst C dL_law_2803 0 rfl ?_
          exact hret dL_law_2804 (by omega) (by omega)
    · refine ts_iconst C dL_law_2786 0 rfl ?_
      exact hret dL_law_2787 (by omega) (by omega)
  have H2849 : ∀ (n28 : Nat) (hn28 : n28 + 1 ≤ 513) (k28 : Int → ts_M → Prop) (hk28 : ∀ (y5 : Int) (M : ts_M), k28 y5 M → ts_V p l e room_1 s m args below meth c g 9 (200 + (513 - n28) * 30) (4100 + (513 - n28) * 2100) Q0 28 [(0, .ref b0), (1, .ref (ts_ad g 154)), (2, .ref (ts_ad g 164)), (3, .ref (ts_ad g 175)), (4, .ref (ts_ad g 176)), (5, ts_v y5)] [] M) (y5 : Int) (M : ts_M), wL_law_B2849 L xs k28 Q y5 M → ts_V p l e room_1 s m args below meth c g 9 (200 + (513 - (n28 + 1)) * 30 + 1) (4100 + (513 - (n28 + 1)) * 2100 + 6) Q0 2849 [(0, .ref b0), (1, .ref (ts_ad g 154)), (2, .ref (ts_ad g 164)), (3, .ref (ts_ad g 175)), (4, .ref (ts_ad g 176)), (5, ts_v y5)] [] M := by
    intro n28 hn28 k28 hk28 y5 M
    unfold wL_law_B2849
    refine ts_goto C 2953 dL_law_2849 rfl ?_
    exact ts_wid (by omega) (by omega) (ts_sub [0, 1, 2, 3, 4, 5] rfl (H2953 n28 hn28 k28 hk28 _ _))
  have H2808 : ∀ (n28 : Nat) (hn28 : n28 + 1 ≤ 513) (k28 : Int → ts_M → Prop) (hk28 : ∀ (y5 : Int) (M : ts_M), k28 y5 M → ts_V p l e room_1 s m args below meth c g 9 (200 + (513 - n28) * 30) (4100 + (513 - n28) * 2100) Q0 28 [(0, .ref b0), (1, .ref (ts_ad g 154)), (2, .ref (ts_ad g 164)), (3, .ref (ts_ad g 175)), (4, .ref (ts_ad g 176)), (5, ts_v y5)] [] M) (y5 : Int) (M : ts_M), wL_law_B2808 L xs k28 Q y5 M → ts_V p l e room_1 s m args below meth c g 9 (200 + (513 - (n28 + 1)) * 30) (4100 + (513 - (n28 + 1)) * 2100) Q0 2808 [(0, .ref b0), (1, .ref (ts_ad g 154)), (2, .ref (ts_ad g 164)), (3, .ref (ts_ad g 175)), (4, .ref (ts_ad g 176)), (5, ts_v y5)] [] M := by
    intro n28 hn28 k28 hk28 y5 M
    unfold wL_law_B2808
    refine ts_aload_n C dL_law_2808 rfl 1 rfl ?_
    refine ts_aload_n C dL_law_2809 rfl 3 rfl ?_
    refine ts_callW C [.ref (ts_ad g 154), .ref (ts_ad g 175)] (mL_failedCommand hl) kL_failedCommand q_1920 rfl rfl (Nat.le_of_ble_eq_true rfl) ⟨Nat.le_of_ble_eq_true rfl, Nat.le_of_ble_eq_true rfl⟩ ⟨by simp only [room_1]; omega, by simp only [room_1]; omega⟩ dL_law_2810 (fun r387 M386 => ?_)
    refine ts_istore C dL_law_2813 (by decide) (lv' := fun x388 => [(6, ts_v x388), (0, .ref b0), (1, .ref (ts_ad g 154)), (2, .ref (ts_ad g 164)), (3, .ref (ts_ad g 175)), (4, .ref (ts_ad g 176)), (5, ts_v y5)]) (fun _ => rfl) (fun x388 => ?_)
    refine ts_aload_n C dL_law_2815 rfl 3 rfl ?_
    refine ts_callVi C [] (mX12_failedCommand hl) kX12_failedCommand q_2577 (by decide) shX12 rfl rfl rfl (Nat.le_of_ble_eq_true rfl) ⟨Nat.le_of_ble_eq_true rfl, Nat.le_of_ble_eq_true rfl⟩ ⟨by simp only [room_1]; omega, by simp only [room_1]; omega⟩ dL_law_2816 (fun r390 M389 => ?_)
    refine ts_istore C dL_law_2819 (by decide) (lv' := fun x391 => [(7, ts_v x391), (6, ts_v x388), (0, .ref b0), (1, .ref (ts_ad g 154)), (2, .ref (ts_ad g 164)), (3, .ref (ts_ad g 175)), (4, .ref (ts_ad g 176)), (5, ts_v y5)]) (fun _ => rfl) (fun x391 => ?_)
    refine ts_aload_n C dL_law_2821 rfl 4 rfl ?_
    refine ts_callVi C [] (mX12_thrown hl) kX12_thrown q_2022 (by decide) shX12 rfl rfl rfl (Nat.le_of_ble_eq_true rfl) ⟨Nat.le_of_ble_eq_true rfl, Nat.le_of_ble_eq_true rfl⟩ ⟨by simp only [room_1]; omega, by simp only [room_1]; omega⟩ dL_law_2822 (fun r393 M392 => ?_)
    refine ts_iload C dL_law_2825 1 rfl ?_
    refine ts_cmp_eq C rfl rfl 2832 dL_law_2827 rfl ?_ ?_
    · refine ts_iload C dL_law_2832 1 rfl ?_
      refine ts_cm0_ne C rfl 2849 dL_law_2834 rfl ?_ ?_
      · exact ts_sub [2, 3, 4, 5, 6, 7] rfl (H2849 n28 hn28 k28 hk28 _ _)
      · refine ts_aload_n C dL_law_2837 rfl 5 rfl ?_
        refine ts_iconst C dL_law_2838 0 rfl ?_
        refine ts_laldc C (by decide) shG175 tw_0 (by decide) dL_law_2839 ?_
        refine ts_iload C dL_law_2840 0 rfl ?_
        refine ts_i2l C dL_law_2842 ?_
        refine ts_lcmp C dL_law_2843 ?_
        refine ts_lif_eq C 2849 dL_law_2844 rfl ?_ ?_
        · exact ts_sub [2, 3, 4, 5, 6, 7] rfl (H2849 n28 hn28 k28 hk28 _ _)
        · refine ts_iconst C dL_law_2847 0 rfl ?_
          exact hret dL_law_2848 (by omega) (by omega)
    · refine ts_iconst C dL_law_2830 0 rfl ?_
      exact hret dL_law_2831 (by omega) (by omega)
  have H2893 : ∀ (n28 : Nat) (hn28 : n28 + 1 ≤ 513) (k28 : Int → ts_M → Prop) (hk28 : ∀ (y5 : Int) (M : ts_M), k28 y5 M → ts_V p l e room_1 s m args below meth c g 9 (200 + (513 - n28) * 30) (4100 + (513 - n28) * 2100) Q0 28 [(0, .ref b0), (1, .ref (ts_ad g 154)), (2, .ref (ts_ad g 164)), (3, .ref (ts_ad g 175)), (4, .ref (ts_ad g 176)), (5, ts_v y5)] [] M) (y5 : Int) (M : ts_M), wL_law_B2893 L xs k28 Q y5 M → ts_V p l e room_1 s m args below meth c g 9 (200 + (513 - (n28 + 1)) * 30 + 1) (4100 + (513 - (n28 + 1)) * 2100 + 6) Q0 2893 [(0, .ref b0), (1, .ref (ts_ad g 154)), (2, .ref (ts_ad g 164)), (3, .ref (ts_ad g 175)), (4, .ref (ts_ad g 176)), (5, ts_v y5)] [] M := by
    intro n28 hn28 k28 hk28 y5 M
    unfold wL_law_B2893
    refine ts_goto C 2953 dL_law_2893 rfl ?_
    exact ts_wid (by omega) (by omega) (ts_sub [0, 1, 2, 3, 4, 5] rfl (H2953 n28 hn28 k28 hk28 _ _))
  have H2852 : ∀ (n28 : Nat) (hn28 : n28 + 1 ≤ 513) (k28 : Int → ts_M → Prop) (hk28 : ∀ (y5 : Int) (M : ts_M), k28 y5 M → ts_V p l e room_1 s m args below meth c g 9 (200 + (513 - n28) * 30) (4100 + (513 - n28) * 2100) Q0 28 [(0, .ref b0), (1, .ref (ts_ad g 154)), (2, .ref (ts_ad g 164)), (3, .ref (ts_ad g 175)), (4, .ref (ts_ad g 176)), (5, ts_v y5)] [] M) (y5 : Int) (M : ts_M), wL_law_B2852 L xs k28 Q y5 M → ts_V p l e room_1 s m args below meth c g 9 (200 + (513 - (n28 + 1)) * 30) (4100 + (513 - (n28 + 1)) * 2100) Q0 2852 [(0, .ref b0), (1, .ref (ts_ad g 154)), (2, .ref (ts_ad g 164)), (3, .ref (ts_ad g 175)), (4, .ref (ts_ad g 176)), (5, ts_v y5)] [] M := by
    intro n28 hn28 k28 hk28 y5 M
    unfold wL_law_B2852
    refine ts_aload_n C dL_law_2852 rfl 1 rfl ?_
    refine ts_aload_n C dL_law_2853 rfl 3 rfl ?_
    refine ts_callW C [.ref (ts_ad g 154), .ref (ts_ad g 175)] (mL_undo hl) kL_undo q_1928 rfl rfl (Nat.le_of_ble_eq_true rfl) ⟨Nat.le_of_ble_eq_true rfl, Nat.le_of_ble_eq_true rfl⟩ ⟨by simp only [room_1]; omega, by simp only [room_1]; omega⟩ dL_law_2854 (fun r395 M394 => ?_)
    refine ts_istore C dL_law_2857 (by decide) (lv' := fun x396 => [(6, ts_v x396), (0, .ref b0), (1, .ref (ts_ad g 154)), (2, .ref (ts_ad g 164)), (3, .ref (ts_ad g 175)), (4, .ref (ts_ad g 176)), (5, ts_v y5)]) (fun _ => rfl) (fun x396 => ?_)
    refine ts_aload_n C dL_law_2859 rfl 3 rfl ?_
    refine ts_callVi C [] (mX12_undo hl) kX12_undo q_2581 (by decide) shX12 rfl rfl rfl (Nat.le_of_ble_eq_true rfl) ⟨Nat.le_of_ble_eq_true rfl, Nat.le_of_ble_eq_true rfl⟩ ⟨by simp only [room_1]; omega, by simp only [room_1]; omega⟩ dL_law_2860 (fun r398 M397 => ?_)
    refine ts_istore C dL_law_2863 (by decide) (lv' := fun x399 => [(7, ts_v x399), (6, ts_v x396), (0, .ref b0), (1, .ref (ts_ad g 154)), (2, .ref (ts_ad g 164)), (3, .ref (ts_ad g 175)), (4, .ref (ts_ad g 176)), (5, ts_v y5)]) (fun _ => rfl) (fun x399 => ?_)
    refine ts_aload_n C dL_law_2865 rfl 4 rfl ?_
    refine ts_callVi C [] (mX12_thrown hl) kX12_thrown q_2022 (by decide) shX12 rfl rfl rfl (Nat.le_of_ble_eq_true rfl) ⟨Nat.le_of_ble_eq_true rfl, Nat.le_of_ble_eq_true rfl⟩ ⟨by simp only [room_1]; omega, by simp only [room_1]; omega⟩ dL_law_2866 (fun r401 M400 => ?_)
    refine ts_iload C dL_law_2869 1 rfl ?_
    refine ts_cmp_eq C rfl rfl 2876 dL_law_2871 rfl ?_ ?_
    · refine ts_iload C dL_law_2876 1 rfl ?_
      refine ts_cm0_ne C rfl 2893 dL_law_2878 rfl ?_ ?_
      · exact ts_sub [2, 3, 4, 5, 6, 7] rfl (H2893 n28 hn28 k28 hk28 _ _)
      · refine ts_aload_n C dL_law_2881 rfl 5 rfl ?_
        refine ts_iconst C dL_law_2882 0 rfl ?_
        refine ts_laldc C (by decide) shG175 tw_0 (by decide) dL_law_2883 ?_
        refine ts_iload C dL_law_2884 0 rfl ?_
        refine ts_i2l C dL_law_2886 ?_
        refine ts_lcmp C dL_law_2887 ?_
        refine ts_lif_eq C 2893 dL_law_2888 rfl ?_ ?_
        · exact ts_sub [2, 3, 4, 5, 6, 7] rfl (H2893 n28 hn28 k28 hk28 _ _)
        · refine ts_iconst C dL_law_2891 0 rfl ?_
          exact hret dL_law_2892 (by omega) (by omega)
    · refine ts_iconst C dL_law_2874 0 rfl ?_
      exact hret dL_law_2875 (by omega) (by omega)
  have H2896 : ∀ (n28 : Nat) (hn28 : n28 + 1 ≤ 513) (k28 : Int → ts_M → Prop) (hk28 : ∀ (y5 : Int) (M : ts_M), k28 y5 M → ts_V p l e room_1 s m args below meth c g 9 (200 + (513 - n28) * 30) (4100 + (513 - n28) * 2100) Q0 28 [(0, .ref b0), (1, .ref (ts_ad g 154)), (2, .ref (ts_ad g 164)), (3, .ref (ts_ad g 175)), (4, .ref (ts_ad g 176)), (5, ts_v y5)] [] M) (y5 : Int) (M : ts_M), wL_law_B2896 L xs k28 Q y5 M → ts_V p l e room_1 s m args below meth c g 9 (200 + (513 - (n28 + 1)) * 30) (4100 + (513 - (n28 + 1)) * 2100) Q0 2896 [(0, .ref b0), (1, .ref (ts_ad g 154)), (2, .ref (ts_ad g 164)), (3, .ref (ts_ad g 175)), (4, .ref (ts_ad g 176)), (5, ts_v y5)] [] M := by
    intro n28 hn28 k28 hk28 y5 M
    unfold wL_law_B2896
    refine ts_aload_n C dL_law_2896 rfl 1 rfl ?_
    refine ts_callVi C [] (mX11_save hl) kX11_save q_1058 (by decide) shX11 rfl rfl rfl (Nat.le_of_ble_eq_true rfl) ⟨Nat.le_of_ble_eq_true rfl, Nat.le_of_ble_eq_true rfl⟩ ⟨by simp only [room_1]; omega, by simp only [room_1]; omega⟩ dL_law_2897 (fun r403 M402 => ?_)
    refine ts_aload_n C dL_law_2900 rfl 2 rfl ?_
    refine ts_callVi C [] (mX12_save hl) kX12_save q_2585 (by decide) shX12 rfl rfl rfl (Nat.le_of_ble_eq_true rfl) ⟨Nat.le_of_ble_eq_true rfl, Nat.le_of_ble_eq_true rfl⟩ ⟨by simp only [room_1]; omega, by simp only [room_1]; omega⟩ dL_law_2901 (fun r405 M404 => ?_)
    refine ts_cmp_eq C rfl rfl 2953 dL_law_2904 rfl ?_ ?_
    · exact ts_wid (by omega) (by omega) (ts_sub [0, 1, 2, 3, 4, 5] rfl (H2953 n28 hn28 k28 hk28 _ _))
    · refine ts_iconst C dL_law_2907 0 rfl ?_
      exact hret dL_law_2908 (by omega) (by omega)
  have H2950 : ∀ (n28 : Nat) (hn28 : n28 + 1 ≤ 513) (k28 : Int → ts_M → Prop) (hk28 : ∀ (y5 : Int) (M : ts_M), k28 y5 M → ts_V p l e room_1 s m args below meth c g 9 (200 + (513 - n28) * 30) (4100 + (513 - n28) * 2100) Q0 28 [(0, .ref b0), (1, .ref (ts_ad g 154)), (2, .ref (ts_ad g 164)), (3, .ref (ts_ad g 175)), (4, .ref (ts_ad g 176)), (5, ts_v y5)] [] M) (y5 : Int) (M : ts_M), wL_law_B2950 L xs k28 Q y5 M → ts_V p l e room_1 s m args below meth c g 9 (200 + (513 - (n28 + 1)) * 30 + 1) (4100 + (513 - (n28 + 1)) * 2100 + 6) Q0 2950 [(0, .ref b0), (1, .ref (ts_ad g 154)), (2, .ref (ts_ad g 164)), (3, .ref (ts_ad g 175)), (4, .ref (ts_ad g 176)), (5, ts_v y5)] [] M := by
    intro n28 hn28 k28 hk28 y5 M
    unfold wL_law_B2950
    refine ts_goto C 2953 dL_law_2950 rfl ?_
    exact ts_wid (by omega) (by omega) (ts_sub [0, 1, 2, 3, 4, 5] rfl (H2953 n28 hn28 k28 hk28 _ _))
  have H2909 : ∀ (n28 : Nat) (hn28 : n28 + 1 ≤ 513) (k28 : Int → ts_M → Prop) (hk28 : ∀ (y5 : Int) (M : ts_M), k28 y5 M → ts_V p l e room_1 s m args below meth c g 9 (200 + (513 - n28) * 30) (4100 + (513 - n28) * 2100) Q0 28 [(0, .ref b0), (1, .ref (ts_ad g 154)), (2, .ref (ts_ad g 164)), (3, .ref (ts_ad g 175)), (4, .ref (ts_ad g 176)), (5, ts_v y5)] [] M) (y5 : Int) (M : ts_M), wL_law_B2909 L xs k28 Q y5 M → ts_V p l e room_1 s m args below meth c g 9 (200 + (513 - (n28 + 1)) * 30) (4100 + (513 - (n28 + 1)) * 2100) Q0 2909 [(0, .ref b0), (1, .ref (ts_ad g 154)), (2, .ref (ts_ad g 164)), (3, .ref (ts_ad g 175)), (4, .ref (ts_ad g 176)), (5, ts_v y5)] [] M := by
    intro n28 hn28 k28 hk28 y5 M
    unfold wL_law_B2909
    refine ts_aload_n C dL_law_2909 rfl 1 rfl ?_
    refine ts_aload_n C dL_law_2910 rfl 3 rfl ?_
    refine ts_callW C [.ref (ts_ad g 154), .ref (ts_ad g 175)] (mL_restore hl) kL_restore q_1940 rfl rfl (Nat.le_of_ble_eq_true rfl) ⟨Nat.le_of_ble_eq_true rfl, Nat.le_of_ble_eq_true rfl⟩ ⟨by simp only [room_1]; omega, by simp only [room_1]; omega⟩ dL_law_2911 (fun r407 M406 => ?_)
    refine ts_istore C dL_law_2914 (by decide) (lv' := fun x408 => [(6, ts_v x408), (0, .ref b0), (1, .ref (ts_ad g 154)), (2, .ref (ts_ad g 164)), (3, .ref (ts_ad g 175)), (4, .ref (ts_ad g 176)), (5, ts_v y5)]) (fun _ => rfl) (fun x408 => ?_)
    refine ts_aload_n C dL_law_2916 rfl 3 rfl ?_
    refine ts_callVi C [] (mX12_restore hl) kX12_restore q_2589 (by decide) shX12 rfl rfl rfl (Nat.le_of_ble_eq_true rfl) ⟨Nat.le_of_ble_eq_true rfl, Nat.le_of_ble_eq_true rfl⟩ ⟨by simp only [room_1]; omega, by simp only [room_1]; omega⟩ dL_law_2917 (fun r410 M409 => ?_)
    refine ts_istore C dL_law_2920 (by decide) (lv' := fun x411 => [(7, ts_v x411), (6, ts_v x408), (0, .ref b0), (1, .ref (ts_ad g 154)), (2, .ref (ts_ad g 164)), (3, .ref (ts_ad g 175)), (4, .ref (ts_ad g 176)), (5, ts_v y5)]) (fun _ => rfl) (fun x411 => ?_)
    refine ts_aload_n C dL_law_2922 rfl 4 rfl ?_
    refine ts_callVi C [] (mX12_thrown hl) kX12_thrown q_2022 (by decide) shX12 rfl rfl rfl (Nat.le_of_ble_eq_true rfl) ⟨Nat.le_of_ble_eq_true rfl, Nat.le_of_ble_eq_true rfl⟩ ⟨by simp only [room_1]; omega, by simp only [room_1]; omega⟩ dL_law_2923 (fun r413 M412 => ?_)
    refine ts_iload C dL_law_2926 1 rfl ?_
    refine ts_cmp_eq C rfl rfl 2933 dL_law_2928 rfl ?_ ?_
    · refine ts_iload C dL_law_2933 1 rfl ?_
      refine ts_cm0_ne C rfl 2950 dL_law_2935 rfl ?_ ?_
      · exact ts_sub [2, 3, 4, 5, 6, 7] rfl (H2950 n28 hn28 k28 hk28 _ _)
      · refine ts_aload_n C dL_law_2938 rfl 5 rfl ?_
        refine ts_iconst C dL_law_2939 0 rfl ?_
        refine ts_laldc C (by decide) shG175 tw_0 (by decide) dL_law_2940 ?_
        refine ts_iload C dL_law_2941 0 rfl ?_
        refine ts_i2l C dL_law_2943 ?_
        refine ts_lcmp C dL_law_2944 ?_
        refine ts_lif_eq C 2950 dL_law_2945 rfl ?_ ?_
        · exact ts_sub [2, 3, 4, 5, 6, 7] rfl (H2950 n28 hn28 k28 hk28 _ _)
        · refine ts_iconst C dL_law_2948 0 rfl ?_
          exact hret dL_law_2949 (by omega) (by omega)
    · refine ts_iconst C dL_law_2931 0 rfl ?_
      exact hret dL_law_2932 (by omega) (by omega)
  have H28 : ∀ (n : Nat) (y5 : Int) (M : ts_M), ts_lp1 (wL_law_L28 L xs Q) n y5 M → n ≤ 513 → ts_V p l e room_1 s m args below meth c g 9 (200 + (513 - n) * 30) (4100 + (513 - n) * 2100) Q0 28 [(0, .ref b0), (1, .ref (ts_ad g 154)), (2, .ref (ts_ad g 164)), (3, .ref (ts_ad g 175)), (4, .ref (ts_ad g 176)), (5, ts_v y5)] [] M := by
    refine ts_lprc1 (V := fun (n : Nat) (y5 : Int) (M : ts_M) => n ≤ 513 → ts_V p l e room_1 s m args below meth c g 9 (200 + (513 - n) * 30) (4100 + (513 - n) * 2100) Q0 28 [(0, .ref b0), (1, .ref (ts_ad g 154)), (2, .ref (ts_ad g 164)), (3, .ref (ts_ad g 175)), (4, .ref (ts_ad g 176)), (5, ts_v y5)] [] M) ?_
    intro n28 k28 hk0 y5 M h0 hn28
    have hk28 : ∀ (y5 : Int) (M : ts_M), k28 y5 M → ts_V p l e room_1 s m args below meth c g 9 (200 + (513 - n28) * 30) (4100 + (513 - n28) * 2100) Q0 28 [(0, .ref b0), (1, .ref (ts_ad g 154)), (2, .ref (ts_ad g 164)), (3, .ref (ts_ad g 175)), (4, .ref (ts_ad g 176)), (5, ts_v y5)] [] M := fun y5 M h => hk0 _ M h (by omega)
    revert h0
    unfold wL_law_L28
    refine ts_iload C dL_law_28 5 rfl ?_
    refine ts_aload_n C dL_law_30 rfl 0 rfl ?_
    refine ts_slen C hX0 hb0 hbA dL_law_31 ?_
    refine ts_iconst C dL_law_32 4 rfl ?_
    refine ts_isub C dL_law_33 ?_
    refine ts_cmp_gt C rfl rfl 2959 dL_law_34 rfl ?_ ?_
    · refine ts_iconst C dL_law_2959 1 rfl ?_
      exact hret dL_law_2960 (by omega) (by omega)
    · refine ts_aload_n C dL_law_37 rfl 0 rfl ?_
      refine ts_iload C dL_law_38 5 rfl ?_
      refine ts_sld C hX0 hb0 hbA dL_law_40 ?_
      refine ts_bipush C dL_law_41 63 tb_63 ?_
      refine ts_iand C dL_law_43 ?_
      refine ts_case rfl 0 (fun e0 => ?_) (fun e0 => ?_)
      · refine ts_tabIn C 0 e0 300 dL_law_44 (by decide) (by decide) rfl rfl ?_
        exact ts_sub [0, 1, 2, 3, 4, 5] rfl (H300 n28 hn28 k28 hk28 _ _)
      · refine ts_case rfl 1 (fun e1 => ?_) (fun e1 => ?_)
        · refine ts_tabIn C 1 e1 368 dL_law_44 (by decide) (by decide) rfl rfl ?_
          exact ts_sub [0, 1, 2, 3, 4, 5] rfl (H368 n28 hn28 k28 hk28 _ _)
        · refine ts_case rfl 2 (fun e2 => ?_) (fun e2 => ?_)
          · refine ts_tabIn C 2 e2 424 dL_law_44 (by decide) (by decide) rfl rfl ?_
            exact ts_sub [0, 1, 2, 3, 4, 5] rfl (H424 n28 hn28 k28 hk28 _ _)
          · refine ts_case rfl 3 (fun e3 => ?_) (fun e3 => ?_)
            · refine ts_tabIn C 3 e3 480 dL_law_44 (by decide) (by decide) rfl rfl ?_
              exact ts_sub [0, 1, 2, 3, 4, 5] rfl (H480 n28 hn28 k28 hk28 _ _)
            · refine ts_case rfl 4 (fun e4 => ?_) (fun e4 => ?_)
              · refine ts_tabIn C 4 e4 536 dL_law_44 (by decide) (by decide) rfl rfl ?_
                exact ts_sub [0, 1, 2, 3, 4, 5] rfl (H536 n28 hn28 k28 hk28 _ _)
              · refine ts_case rfl 5 (fun e5 => ?_) (fun e5 => ?_)
                · refine ts_tabIn C 5 e5 580 dL_law_44 (by decide) (by decide) rfl rfl ?_
                  exact ts_sub [0, 1, 2, 3, 4, 5] rfl (H580 n28 hn28 k28 hk28 _ _)
                · refine ts_case rfl 6 (fun e6 => ?_) (fun e6 => ?_)
                  · refine ts_tabIn C 6 e6 624 dL_law_44 (by decide) (by decide) rfl rfl ?_
                    exact ts_sub [0, 1, 2, 3, 4, 5] rfl (H624 n28 hn28 k28 hk28 _ _)
                  · refine ts_case rfl 7 (fun e7 => ?_) (fun e7 => ?_)
                    · refine ts_tabIn C 7 e7 668 dL_law_44 (by decide) (by decide) rfl rfl ?_
                      exact ts_sub [0, 1, 2, 3, 4, 5] rfl (H668 n28 hn28 k28 hk28 _ _)
                    · refine ts_case rfl 8 (fun e8 => ?_) (fun e8 => ?_)
                      · refine ts_tabIn C 8 e8 724 dL_law_44 (by decide) (by decide) rfl rfl ?_
                        exact ts_sub [0, 1, 2, 3, 4, 5] rfl (H724 n28 hn28 k28 hk28 _ _)
                      · refine ts_case rfl 9 (fun e9 => ?_) (fun e9 => ?_)
                        · refine ts_tabIn C 9 e9 775 dL_law_44 (by decide) (by decide) rfl rfl ?_
                          exact ts_sub [0, 1, 2, 3, 4, 5] rfl (H775 n28 hn28 k28 hk28 _ _)
                        · refine ts_case rfl 10 (fun e10 => ?_) (fun e10 => ?_)
                          · refine ts_tabIn C 10 e10 855 dL_law_44 (by decide) (by decide) rfl rfl ?_
                            exact ts_sub [0, 1, 2, 3, 4, 5] rfl (H855 n28 hn28 k28 hk28 _ _)
                          · refine ts_case rfl 11 (fun e11 => ?_) (fun e11 => ?_)
                            · refine ts_tabIn C 11 e11 923 dL_law_44 (by decide) (by decide) rfl rfl ?_
                              exact ts_sub [0, 1, 2, 3, 4, 5] rfl (H923 n28 hn28 k28 hk28 _ _)
                            · refine ts_case rfl 12 (fun e12 => ?_) (fun e12 => ?_)
                              · refine ts_tabIn C 12 e12 991 dL_law_44 (by decide) (by decide) rfl rfl ?_
                                exact ts_sub [0, 1, 2, 3, 4, 5] rfl (H991 n28 hn28 k28 hk28 _ _)
                              · refine ts_case rfl 13 (fun e13 => ?_) (fun e13 => ?_)
                                · refine ts_tabIn C 13 e13 1004 dL_law_44 (by decide) (by decide) rfl rfl ?_
                                  exact ts_sub [0, 1, 2, 3, 4, 5] rfl (H1004 n28 hn28 k28 hk28 _ _)
                                · refine ts_case rfl 14 (fun e14 => ?_) (fun e14 => ?_)
                                  · refine ts_tabIn C 14 e14 1060 dL_law_44 (by decide) (by decide) rfl rfl ?_
                                    exact ts_sub [0, 1, 2, 3, 4, 5] rfl (H1060 n28 hn28 k28 hk28 _ _)
                                  · refine ts_case rfl 15 (fun e15 => ?_) (fun e15 => ?_)
                                    · refine ts_tabIn C 15 e15 1116 dL_law_44 (by decide) (by decide) rfl rfl ?_
                                      exact ts_sub [0, 1, 2, 3, 4, 5] rfl (H1116 n28 hn28 k28 hk28 _ _)
                                    · refine ts_case rfl 16 (fun e16 => ?_) (fun e16 => ?_)
                                      · refine ts_tabIn C 16 e16 1172 dL_law_44 (by decide) (by decide) rfl rfl ?_
                                        exact ts_sub [0, 1, 2, 3, 4, 5] rfl (H1172 n28 hn28 k28 hk28 _ _)
                                      · refine ts_case rfl 17 (fun e17 => ?_) (fun e17 => ?_)
                                        · refine ts_tabIn C 17 e17 1228 dL_law_44 (by decide) (by decide) rfl rfl ?_
                                          exact ts_sub [0, 1, 2, 3, 4, 5] rfl (H1228 n28 hn28 k28 hk28 _ _)
                                        · refine ts_case rfl 18 (fun e18 => ?_) (fun e18 => ?_)
                                          · refine ts_tabIn C 18 e18 1241 dL_law_44 (by decide) (by decide) rfl rfl ?_
                                            exact ts_sub [0, 1, 2, 3, 4, 5] rfl (H1241 n28 hn28 k28 hk28 _ _)
                                          · refine ts_case rfl 19 (fun e19 => ?_) (fun e19 => ?_)
                                            · refine ts_tabIn C 19 e19 1297 dL_law_44 (by decide) (by decide) rfl rfl ?_
                                              exact ts_sub [0, 1, 2, 3, 4, 5] rfl (H1297 n28 hn28 k28 hk28 _ _)
                                            · refine ts_case rfl 20 (fun e20 => ?_) (fun e20 => ?_)
                                              · refine ts_tabIn C 20 e20 1353 dL_law_44 (by decide) (by decide) rfl rfl ?_
                                                exact ts_sub [0, 1, 2, 3, 4, 5] rfl (H1353 n28 hn28 k28 hk28 _ _)
                                              · refine ts_case rfl 21 (fun e21 => ?_) (fun e21 => ?_)
                                                · refine ts_tabIn C 21 e21 1366 dL_law_44 (by decide) (by decide) rfl rfl ?_
                                                  exact ts_sub [0, 1, 2, 3, 4, 5] rfl (H1366 n28 hn28 k28 hk28 _ _)
                                                · refine ts_case rfl 22 (fun e22 => ?_) (fun e22 => ?_)
                                                  · refine ts_tabIn C 22 e22 1422 dL_law_44 (by decide) (by decide) rfl rfl ?_
                                                    exact ts_sub [0, 1, 2, 3, 4, 5] rfl (H1422 n28 hn28 k28 hk28 _ _)
                                                  · refine ts_case rfl 23 (fun e23 => ?_) (fun e23 => ?_)
                                                    · refine ts_tabIn C 23 e23 1466 dL_law_44 (by decide) (by decide) rfl rfl ?_
                                                      exact ts_sub [0, 1, 2, 3, 4, 5] rfl (H1466 n28 hn28 k28 hk28 _ _)
                                                    · refine ts_case rfl 24 (fun e24 => ?_) (fun e24 => ?_)
                                                      · refine ts_tabIn C 24 e24 1510 dL_law_44 (by decide) (by decide) rfl rfl ?_
                                                        exact ts_sub [0, 1, 2, 3, 4, 5] rfl (H1510 n28 hn28 k28 hk28 _ _)
                                                      · refine ts_case rfl 25 (fun e25 => ?_) (fun e25 => ?_)
                                                        · refine ts_tabIn C 25 e25 1523 dL_law_44 (by decide) (by decide) rfl rfl ?_
                                                          exact ts_sub [0, 1, 2, 3, 4, 5] rfl (H1523 n28 hn28 k28 hk28 _ _)
                                                        · refine ts_case rfl 26 (fun e26 => ?_) (fun e26 => ?_)
                                                          · refine ts_tabIn C 26 e26 1588 dL_law_44 (by decide) (by decide) rfl rfl ?_
                                                            exact ts_sub [0, 1, 2, 3, 4, 5] rfl (H1588 n28 hn28 k28 hk28 _ _)
                                                          · refine ts_case rfl 27 (fun e27 => ?_) (fun e27 => ?_)
                                                            · refine ts_tabIn C 27 e27 1632 dL_law_44 (by decide) (by decide) rfl rfl ?_
                                                              exact ts_sub [0, 1, 2, 3, 4, 5] rfl (H1632 n28 hn28 k28 hk28 _ _)
                                                            · refine ts_case rfl 28 (fun e28 => ?_) (fun e28 => ?_)
                                                              · refine ts_tabIn C 28 e28 1683 dL_law_44 (by decide) (by decide) rfl rfl ?_
                                                                exact ts_sub [0, 1, 2, 3, 4, 5] rfl (H1683 n28 hn28 k28 hk28 _ _)
                                                              · refine ts_case rfl 29 (fun e29 => ?_) (fun e29 => ?_)
                                                                · refine ts_tabIn C 29 e29 1746 dL_law_44 (by decide) (by decide) rfl rfl ?_
                                                                  exact ts_sub [0, 1, 2, 3, 4, 5] rfl (H1746 n28 hn28 k28 hk28 _ _)
                                                                · refine ts_case rfl 30 (fun e30 => ?_) (fun e30 => ?_)
                                                                  · refine ts_tabIn C 30 e30 1814 dL_law_44 (by decide) (by decide) rfl rfl ?_
                                                                    exact ts_sub [0, 1, 2, 3, 4, 5] rfl (H1814 n28 hn28 k28 hk28 _ _)
                                                                  · refine ts_case rfl 31 (fun e31 => ?_) (fun e31 => ?_)
                                                                    · refine ts_tabIn C 31 e31 1827 dL_law_44 (by decide) (by decide) rfl rfl ?_
                                                                      exact ts_sub [0, 1, 2, 3, 4, 5] rfl (H1827 n28 hn28 k28 hk28 _ _)
                                                                    · refine ts_case rfl 32 (fun e32 => ?_) (fun e32 => ?_)
                                                                      · refine ts_tabIn C 32 e32 1840 dL_law_44 (by decide) (by decide) rfl rfl ?_
                                                                        exact ts_sub [0, 1, 2, 3, 4, 5] rfl (H1840 n28 hn28 k28 hk28 _ _)
                                                                      · refine ts_case rfl 33 (fun e33 => ?_) (fun e33 => ?_)
                                                                        · refine ts_tabIn C 33 e33 1896 dL_law_44 (by decide) (by decide) rfl rfl ?_
                                                                          exact ts_sub [0, 1, 2, 3, 4, 5] rfl (H1896 n28 hn28 k28 hk28 _ _)
                                                                        · refine ts_case rfl 34 (fun e34 => ?_) (fun e34 => ?_)
                                                                          · refine ts_tabIn C 34 e34 1959 dL_law_44 (by decide) (by decide) rfl rfl ?_
                                                                            exact ts_sub [0, 1, 2, 3, 4, 5] rfl (H1959 n28 hn28 k28 hk28 _ _)
                                                                          · refine ts_case rfl 35 (fun e35 => ?_) (fun e35 => ?_)
                                                                            · refine ts_tabIn C 35 e35 2022 dL_law_44 (by decide) (by decide) rfl rfl ?_
                                                                              exact ts_sub [0, 1, 2, 3, 4, 5] rfl (H2022 n28 hn28 k28 hk28 _ _)
                                                                            · refine ts_case rfl 36 (fun e36 => ?_) (fun e36 => ?_)
                                                                              · refine ts_tabIn C 36 e36 2097 dL_law_44 (by decide) (by decide) rfl rfl ?_
                                                                                exact ts_sub [0, 1, 2, 3, 4, 5] rfl (H2097 n28 hn28 k28 hk28 _ _)
                                                                              · refine ts_case rfl 37 (fun e37 => ?_) (fun e37 => ?_)
                                                                                · refine ts_tabIn C 37 e37 2110 dL_law_44 (by decide) (by decide) rfl rfl ?_
                                                                                  exact ts_sub [0, 1, 2, 3, 4, 5] rfl (H2110 n28 hn28 k28 hk28 _ _)
                                                                                · refine ts_case rfl 38 (fun e38 => ?_) (fun e38 => ?_)
                                                                                  · refine ts_tabIn C 38 e38 2178 dL_law_44 (by decide) (by decide) rfl rfl ?_
                                                                                    exact ts_sub [0, 1, 2, 3, 4, 5] rfl (H2178 n28 hn28 k28 hk28 _ _)
                                                                                  · refine ts_case rfl 39 (fun e39 => ?_) (fun e39 => ?_)
                                                                                    · refine ts_tabIn C 39 e39 2246 dL_law_44 (by decide) (by decide) rfl rfl ?_
                                                                                      exact ts_sub [0, 1, 2, 3, 4, 5] rfl (H2246 n28 hn28 k28 hk28 _ _)
                                                                                    · refine ts_case rfl 40 (fun e40 => ?_) (fun e40 => ?_)
                                                                                      · refine ts_tabIn C 40 e40 2259 dL_law_44 (by decide) (by decide) rfl rfl ?_
                                                                                        exact ts_sub [0, 1, 2, 3, 4, 5] rfl (H2259 n28 hn28 k28 hk28 _ _)
                                                                                      · refine ts_case rfl 41 (fun e41 => ?_) (fun e41 => ?_)
                                                                                        · refine ts_tabIn C 41 e41 2272 dL_law_44 (by decide) (by decide) rfl rfl ?_
                                                                                          exact ts_sub [0, 1, 2, 3, 4, 5] rfl (H2272 n28 hn28 k28 hk28 _ _)
                                                                                        · refine ts_case rfl 42 (fun e42 => ?_) (fun e42 => ?_)
                                                                                          · refine ts_tabIn C 42 e42 2328 dL_law_44 (by decide) (by decide) rfl rfl ?_
                                                                                            exact ts_sub [0, 1, 2, 3, 4, 5] rfl (H2328 n28 hn28 k28 hk28 _ _)
                                                                                          · refine ts_case rfl 43 (fun e43 => ?_) (fun e43 => ?_)
                                                                                            · refine ts_tabIn C 43 e43 2341 dL_law_44 (by decide) (by decide) rfl rfl ?_
                                                                                              exact ts_sub [0, 1, 2, 3, 4, 5] rfl (H2341 n28 hn28 k28 hk28 _ _)
                                                                                            · refine ts_case rfl 44 (fun e44 => ?_) (fun e44 => ?_)
                                                                                              · refine ts_tabIn C 44 e44 2397 dL_law_44 (by decide) (by decide) rfl rfl ?_
                                                                                                exact ts_sub [0, 1, 2, 3, 4, 5] rfl (H2397 n28 hn28 k28 hk28 _ _)
                                                                                              · refine ts_case rfl 45 (fun e45 => ?_) (fun e45 => ?_)
                                                                                                · refine ts_tabIn C 45 e45 2410 dL_law_44 (by decide) (by decide) rfl rfl ?_
                                                                                                  exact ts_sub [0, 1, 2, 3, 4, 5] rfl (H2410 n28 hn28 k28 hk28 _ _)
                                                                                                · refine ts_case rfl 46 (fun e46 => ?_) (fun e46 => ?_)
                                                                                                  · refine ts_tabIn C 46 e46 2423 dL_law_44 (by decide) (by decide) rfl rfl ?_
                                                                                                    exact ts_sub [0, 1, 2, 3, 4, 5] rfl (H2423 n28 hn28 k28 hk28 _ _)
                                                                                                  · refine ts_case rfl 47 (fun e47 => ?_) (fun e47 => ?_)
                                                                                                    · refine ts_tabIn C 47 e47 2436 dL_law_44 (by decide) (by decide) rfl rfl ?_
                                                                                                      exact ts_sub [0, 1, 2, 3, 4, 5] rfl (H2436 n28 hn28 k28 hk28 _ _)
                                                                                                    · refine ts_case rfl 48 (fun e48 => ?_) (fun e48 => ?_)
                                                                                                      · refine ts_tabIn C 48 e48 2501 dL_law_44 (by decide) (by decide) rfl rfl ?_
                                                                                                        exact ts_sub [0, 1, 2, 3, 4, 5] rfl (H2501 n28 hn28 k28 hk28 _ _)
                                                                                                      · refine ts_case rfl 49 (fun e49 => ?_) (fun e49 => ?_)
                                                                                                        · refine ts_tabIn C 49 e49 2567 dL_law_44 (by decide) (by decide) rfl rfl ?_
                                                                                                          exact ts_sub [0, 1, 2, 3, 4, 5] rfl (H2567 n28 hn28 k28 hk28 _ _)
                                                                                                        · refine ts_case rfl 50 (fun e50 => ?_) (fun e50 => ?_)
                                                                                                          · refine ts_tabIn C 50 e50 2580 dL_law_44 (by decide) (by decide) rfl rfl ?_
                                                                                                            exact ts_sub [0, 1, 2, 3, 4, 5] rfl (H2580 n28 hn28 k28 hk28 _ _)
                                                                                                          · refine ts_case rfl 51 (fun e51 => ?_) (fun e51 => ?_)
                                                                                                            · refine ts_tabIn C 51 e51 2593 dL_law_44 (by decide) (by decide) rfl rfl ?_
                                                                                                              exact ts_sub [0, 1, 2, 3, 4, 5] rfl (H2593 n28 hn28 k28 hk28 _ _)
                                                                                                            · refine ts_case rfl 52 (fun e52 => ?_) (fun e52 => ?_)
                                                                                                              · refine ts_tabIn C 52 e52 2606 dL_law_44 (by decide) (by decide) rfl rfl ?_
                                                                                                                exact ts_sub [0, 1, 2, 3, 4, 5] rfl (H2606 n28 hn28 k28 hk28 _ _)
                                                                                                              · refine ts_case rfl 53 (fun e53 => ?_) (fun e53 => ?_)
                                                                                                                · refine ts_tabIn C 53 e53 2662 dL_law_44 (by decide) (by decide) rfl rfl ?_
                                                                                                                  exact ts_sub [0, 1, 2, 3, 4, 5] rfl (H2662 n28 hn28 k28 hk28 _ _)
                                                                                                                · refine ts_case rfl 54 (fun e54 => ?_) (fun e54 => ?_)
                                                                                                                  · refine ts_tabIn C 54 e54 2720 dL_law_44 (by decide) (by decide) rfl rfl ?_
                                                                                                                    exact ts_sub [0, 1, 2, 3, 4, 5] rfl (H2720 n28 hn28 k28 hk28 _ _)
                                                                                                                  · refine ts_case rfl 55 (fun e55 => ?_) (fun e55 => ?_)
                                                                                                                    · refine ts_tabIn C 55 e55 2764 dL_law_44 (by decide) (by decide) rfl rfl ?_
                                                                                                                      exact ts_sub [0, 1, 2, 3, 4, 5] rfl (H2764 n28 hn28 k28 hk28 _ _)
                                                                                                                    · refine ts_case rfl 56 (fun e56 => ?_) (fun e56 => ?_)
                                                                                                                      · refine ts_tabIn C 56 e56 2808 dL_law_44 (by decide) (by decide) rfl rfl ?_
                                                                                                                        exact ts_sub [0, 1, 2, 3, 4, 5] rfl (H2808 n28 hn28 k28 hk28 _ _)
                                                                                                                      · refine ts_case rfl 57 (fun e57 => ?_) (fun e57 => ?_)
                                                                                                                        · refine ts_tabIn C 57 e57 2852 dL_law_44 (by decide) (by decide) rfl rfl ?_
                                                                                                                          exact ts_sub [0, 1, 2, 3, 4, 5] rfl (H2852 n28 hn28 k28 hk28 _ _)
                                                                                                                        · refine ts_case rfl 58 (fun e58 => ?_) (fun e58 => ?_)
                                                                                                                          · refine ts_tabIn C 58 e58 2896 dL_law_44 (by decide) (by decide) rfl rfl ?_
                                                                                                                            exact ts_sub [0, 1, 2, 3, 4, 5] rfl (H2896 n28 hn28 k28 hk28 _ _)
                                                                                                                          · refine ts_case rfl 59 (fun e59 => ?_) (fun e59 => ?_)
                                                                                                                            · refine ts_tabIn C 59 e59 2909 dL_law_44 (by decide) (by decide) rfl rfl ?_
                                                                                                                              exact ts_sub [0, 1, 2, 3, 4, 5] rfl (H2909 n28 hn28 k28 hk28 _ _)
                                                                                                                            · refine ts_tabOut C 2953 dL_law_44 (by omega) rfl ?_
                                                                                                                              exact ts_wid (by omega) (by omega) (ts_sub [0, 1, 2, 3, 4, 5] rfl (H2953 n28 hn28 k28 hk28 _ _))
  exact H28
