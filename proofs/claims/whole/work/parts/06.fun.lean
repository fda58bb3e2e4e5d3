def F_J6_bitCount_0f7a4 (p0 : Int32) (h : Hp) : Option (Int32 × Hp) :=
  nm (p0 - (((p0).toUInt32 >>> (((1 : Int32)).toUInt32 &&& Int32.toUInt32 31)).toInt32 &&& (1431655765 : Int32))) fun x1 => nm ((x1 &&& (858993459 : Int32)) + (((x1).toUInt32 >>> (((2 : Int32)).toUInt32 &&& Int32.toUInt32 31)).toInt32 &&& (858993459 : Int32))) fun x2 => nm ((x2 + ((x2).toUInt32 >>> (((4 : Int32)).toUInt32 &&& Int32.toUInt32 31)).toInt32) &&& (252645135 : Int32)) fun x3 => nm (x3 + ((x3).toUInt32 >>> (((8 : Int32)).toUInt32 &&& Int32.toUInt32 31)).toInt32) fun x4 => nm (x4 + ((x4).toUInt32 >>> (((16 : Int32)).toUInt32 &&& Int32.toUInt32 31)).toInt32) fun x5 => some ((x5 &&& (63 : Int32)), h)
def F_J7_fill_53178_L5 (q3 : Nat) (x4 : Int32) (x5 : Int32) : Nat → Int32 → Hp → Option (Unit × Hp)
  | 0, _, _ => none
  | N + 1, x6, h7 =>
  if x5 ≤ x6 then (some ((), h7)) else (ck (aIn shC q3 x6) (nm (pI h7 q3 (x6).toNatClampNeg x4) fun h8 => nm (x6 + (1 : Int32)) fun x9 => F_J7_fill_53178_L5 q3 x4 x5 N x9 h8))
def F_J7_fill_53178 (p0 : Nat) (p1 : Int32) (h : Hp) : Option (Unit × Hp) :=
  (aLn shC p0).bind fun n1 => nm (nI n1) fun x2 => F_J7_fill_53178_L5 p0 p1 x2 FU (0 : Int32) h
def F_X0_begins_J33 (q1 : Nat) (x2 : Int32) (h3 : Hp) : Option (Int32 × Hp) :=
  if x2 = (59 : Int32) then (if (h3.1 q1 1) ≤ (0 : Int32) then (some ((0 : Int32), h3)) else (if (8 : Int32) ≤ (h3.1 q1 2) then (some ((0 : Int32), h3)) else (nm (pI h3 q1 2 ((h3.1 q1 2) + (1 : Int32))) fun h4 => some ((1 : Int32), h4)))) else (some ((0 : Int32), h3))
def F_X0_begins (o : Nat) (p0 : Int32) (h : Hp) : Option (Int32 × Hp) :=
  if p0 = (44 : Int32) then (if (h.1 o 2) = (0 : Int32) then (if (4 : Int32) ≤ (h.1 o 1) then (F_X0_begins_J33 o p0 h) else (nm (pI h o 1 ((h.1 o 1) + (1 : Int32))) fun h8 => some ((1 : Int32), h8))) else (F_X0_begins_J33 o p0 h)) else (F_X0_begins_J33 o p0 h)
def F_X0_carriedTo_L9 (q1 : Nat) (x2 : Int32) (x3 : Int32) : Nat → Int32 → Int32 → Int32 → Hp → Option (Int32 × Hp)
  | 0, _, _, _, _ => none
  | N + 1, x4, x5, x6, h7 =>
  gO shC (h7.2 q1 10) 3 fun q8 => if (h7.1 q8 3) ≤ x6 then (some (x5, h7)) else (gO shC (h7.2 q1 10) 3 fun q9 => (h7.2 q9 0).bind fun q10 => ck (aIn shC q10 x6) (if (h7.1 q10 (x6).toNatClampNeg) = x2 then (gO shC (h7.2 q1 10) 3 fun q12 => (h7.2 q12 1).bind fun q13 => ck (aIn shC q13 x6) (if x3 < (h7.1 q13 (x6).toNatClampNeg) then (nm (x6 + (1 : Int32)) fun x14 => F_X0_carriedTo_L9 q1 x2 x3 N x4 x5 x14 h7) else (gO shC (h7.2 q1 10) 3 fun q15 => (h7.2 q15 1).bind fun q16 => ck (aIn shC q16 x6) (if (h7.1 q16 (x6).toNatClampNeg) < x4 then (nm (x6 + (1 : Int32)) fun x17 => F_X0_carriedTo_L9 q1 x2 x3 N x4 x5 x17 h7) else (gO shC (h7.2 q1 10) 3 fun q18 => (h7.2 q18 1).bind fun q19 => ck (aIn shC q19 x6) (nm (h7.1 q19 (x6).toNatClampNeg) fun x20 => gO shC (h7.2 q1 10) 3 fun q21 => (h7.2 q21 2).bind fun q22 => ck (aIn shC q22 x6) (nm (h7.1 q22 (x6).toNatClampNeg) fun x23 => nm (x6 + (1 : Int32)) fun x24 => F_X0_carriedTo_L9 q1 x2 x3 N x20 x23 x24 h7))))))) else (nm (x6 + (1 : Int32)) fun x11 => F_X0_carriedTo_L9 q1 x2 x3 N x4 x5 x11 h7)))
def F_X0_carriedTo (o : Nat) (p0 : Int32) (p1 : Int32) (h : Hp) : Option (Int32 × Hp) :=
  F_X0_carriedTo_L9 o p0 p1 FU (0 : Int32) (-9 : Int32) (0 : Int32) h
def F_X0_carry_L12 (k38 : Hp → Option (Unit × Hp)) (q4 : Nat) (x5 : Int32) : Nat → Int32 → Hp → Option (Unit × Hp)
  | 0, _, _ => none
  | N + 1, x6, h7 =>
  if (8 : Int32) ≤ x6 then (k38 h7) else ((h7.2 q4 12).bind fun q8 => ck (aRn shC 3 q8 x5) ((h7.2 q8 (x5).toNatClampNeg).bind fun q9 => bnd (F_X0_carriedTo q4 x5 x6 h7) fun r11 h10 => ck (aIn shC q9 x6) (nm (pI h10 q9 (x6).toNatClampNeg r11) fun h12 => nm (x6 + (1 : Int32)) fun x13 => F_X0_carry_L12 k38 q4 x5 N x13 h12)))
def F_X0_carry_L2 (q1 : Nat) : Nat → Int32 → Hp → Option (Unit × Hp)
  | 0, _, _ => none
  | N + 1, x2, h3 =>
  if (h3.1 q1 1) ≤ x2 then (some ((), h3)) else (F_X0_carry_L12 (fun h15 => nm (x2 + (1 : Int32)) fun x16 => F_X0_carry_L2 q1 N x16 h15) q1 x2 FU (0 : Int32) h3)
def F_X0_carry (o : Nat) (h : Hp) : Option (Unit × Hp) :=
  F_X0_carry_L2 o FU (0 : Int32) h
def F_X0_catches_J72 (x12 : Int32) (y13 : Int32) (h14 : Hp) : Option (Int32 × Hp) :=
  if x12 < y13 then (some ((0 : Int32), h14)) else (some ((1 : Int32), h14))
def F_X0_catches_J23 (q2 : Nat) (x3 : Int32) (x4 : Int32) (x5 : Int32) (x6 : Int32) (h7 : Hp) : Option (Int32 × Hp) :=
  (h7.2 q2 7).bind fun q8 => ck (aIn shC q8 x5) (nm (x6 - ((2 : Int32) * (mA ((h7.1 q8 (x5).toNatClampNeg) - x4)))) fun x9 => (h7.2 q2 3).bind fun q10 => ck (aIn shC q10 x3) (if (h7.1 q10 (x3).toNatClampNeg) = (1 : Int32) then ((h7.2 q2 5).bind fun q16 => ck (aIn shC q16 x3) (F_X0_catches_J72 x9 ((h7.1 q16 (x3).toNatClampNeg) + (1 : Int32)) h7)) else ((h7.2 q2 5).bind fun q11 => ck (aIn shC q11 x3) (F_X0_catches_J72 x9 (mX (h7.1 q11 (x3).toNatClampNeg) (1 : Int32)) h7))))
def F_X0_catches (o : Nat) (p0 : Int32) (p1 : Int32) (p2 : Int32) (p3 : Int32) (h : Hp) : Option (Int32 × Hp) :=
  (h.2 o 6).bind fun q1 => ck (aIn shC q1 p0) (if (h.1 q1 (p0).toNatClampNeg) = (-9 : Int32) then (F_X0_catches_J23 o p0 p1 p2 p3 h) else ((h.2 o 6).bind fun q18 => ck (aIn shC q18 p0) (if p2 < (h.1 q18 (p0).toNatClampNeg) then (F_X0_catches_J23 o p0 p1 p2 p3 h) else (some ((0 : Int32), h)))))
def F_X0_cellarOn (o : Nat) (p0 : Int32) (p1 : Int32) (h : Hp) : Option (Int32 × Hp) :=
  (h.2 o 12).bind fun q1 => ck (aRn shC 3 q1 p0) ((h.2 q1 (p0).toNatClampNeg).bind fun q2 => ck (aIn shC q2 p1) (if (h.1 q2 (p1).toNatClampNeg) = (-9 : Int32) then ((h.2 o 4).bind fun q5 => ck (aIn shC q5 p0) (some ((h.1 q5 (p0).toNatClampNeg), h))) else ((h.2 o 12).bind fun q3 => ck (aRn shC 3 q3 p0) ((h.2 q3 (p0).toNatClampNeg).bind fun q4 => ck (aIn shC q4 p1) (some ((h.1 q4 (p1).toNatClampNeg), h))))))
def F_X0_kindOf (p0 : Int32) (h : Hp) : Option (Int32 × Hp) :=
  if p0 = (99 : Int32) then (some ((0 : Int32), h)) else (if p0 = (109 : Int32) then (some ((2 : Int32), h)) else (if p0 = (119 : Int32) then (some ((1 : Int32), h)) else (some ((-9 : Int32), h))))
def F_X0_isDigit (p0 : Int32) (p1 : Int32) (p2 : Int32) (h : Hp) : Option (Int32 × Hp) :=
  if p0 < ((48 : Int32) + p1) then (some ((0 : Int32), h)) else (if ((48 : Int32) + p2) < p0 then (some ((0 : Int32), h)) else (some ((1 : Int32), h)))
def F_X0_cheeseGoesOn (o : Nat) (p0 : Int32) (p1 : Int32) (h : Hp) : Option (Int32 × Hp) :=
  nm ((h.1 o 1) - (1 : Int32)) fun x1 => if p0 = (1 : Int32) then ((h.2 o 3).bind fun q11 => bnd (F_X0_kindOf p1 h) fun r13 h12 => ck (aIn shC q11 x1) (nm (pI h12 q11 (x1).toNatClampNeg r13) fun h14 => (h14.2 o 3).bind fun q15 => ck (aIn shC q15 x1) (if (h14.1 q15 (x1).toNatClampNeg) = (-9 : Int32) then (some ((0 : Int32), h14)) else (some ((1 : Int32), h14))))) else (if p0 = (2 : Int32) then ((h.2 o 4).bind fun q6 => ck (aIn shC q6 x1) (nm (pI h q6 (x1).toNatClampNeg (p1 - (48 : Int32))) fun h7 => bnd (F_X0_isDigit p1 (0 : Int32) ((h7.1 o 0) - (1 : Int32)) h7) fun r9 h8 => ck (isB r9) (some (r9, h8)))) else ((h.2 o 5).bind fun q2 => ck (aIn shC q2 x1) (nm (pI h q2 (x1).toNatClampNeg (p1 - (48 : Int32))) fun h3 => bnd (F_X0_isDigit p1 (0 : Int32) (9 : Int32) h3) fun r5 h4 => ck (isB r5) (some (r5, h4)))))
def F_X0_depthOf_L10 (q2 : Nat) (x3 : Int32) (x4 : Int32) : Nat → Int32 → Int32 → Hp → Option (Int32 × Hp)
  | 0, _, _, _ => none
  | N + 1, x5, x6, h7 =>
  if x6 < (0 : Int32) then (some ((-9 : Int32), h7)) else (if ((x3 >>> (x6 &&& 31)) &&& (1 : Int32)) = (0 : Int32) then (nm (x6 + (-1 : Int32)) fun x8 => F_X0_depthOf_L10 q2 x3 x4 N x5 x8 h7) else (nm (x5 + (1 : Int32)) fun x9 => (h7.2 q2 9).bind fun q10 => ck (aIn shC q10 x6) (if (h7.1 q10 (x6).toNatClampNeg) = x4 then (some (x9, h7)) else (nm (x6 + (-1 : Int32)) fun x11 => F_X0_depthOf_L10 q2 x3 x4 N x9 x11 h7))))
def F_X0_depthOf (o : Nat) (p0 : Int32) (p1 : Int32) (h : Hp) : Option (Int32 × Hp) :=
  nm ((h.1 o 2) - (1 : Int32)) fun x1 => F_X0_depthOf_L10 o p0 p1 FU (0 : Int32) x1 h
def F_X0_talkGoesOn (o : Nat) (p0 : Int32) (p1 : Int32) (h : Hp) : Option (Int32 × Hp) :=
  nm ((h.1 o 2) - (1 : Int32)) fun x1 => if p0 = (1 : Int32) then ((h.2 o 7).bind fun q11 => ck (aIn shC q11 x1) (nm (pI h q11 (x1).toNatClampNeg (p1 - (48 : Int32))) fun h12 => bnd (F_X0_isDigit p1 (0 : Int32) ((h12.1 o 0) - (1 : Int32)) h12) fun r14 h13 => ck (isB r14) (some (r14, h13)))) else (if p0 = (2 : Int32) then ((h.2 o 8).bind fun q6 => ck (aIn shC q6 x1) (nm (pI h q6 (x1).toNatClampNeg (p1 - (48 : Int32))) fun h7 => bnd (F_X0_isDigit p1 (1 : Int32) (9 : Int32) h7) fun r9 h8 => ck (isB r9) (some (r9, h8)))) else ((h.2 o 9).bind fun q2 => ck (aIn shC q2 x1) (nm (pI h q2 (x1).toNatClampNeg (p1 - (48 : Int32))) fun h3 => bnd (F_X0_isDigit p1 (0 : Int32) (7 : Int32) h3) fun r5 h4 => ck (isB r5) (some (r5, h4)))))
def F_X0_goesOn (o : Nat) (p0 : Int32) (p1 : Int32) (h : Hp) : Option (Int32 × Hp) :=
  if p0 = (0 : Int32) then (if p1 = (113 : Int32) then (some ((1 : Int32), h)) else (some ((0 : Int32), h))) else (if p0 = (1 : Int32) then (nm (pI h o 0 (p1 - (48 : Int32))) fun h10 => bnd (F_X0_isDigit p1 (1 : Int32) (5 : Int32) h10) fun r12 h11 => ck (isB r12) (some (r12, h11))) else (nm ((p0 - (2 : Int32)) - (p0 - (2 : Int32)) / (4 : Int32) * (4 : Int32)) fun x1 => if x1 = (0 : Int32) then (bnd (F_X0_begins o p1 h) fun r8 h7 => ck (isB r8) (some (r8, h7))) else (if (h.1 o 2) = (0 : Int32) then (bnd (F_X0_cheeseGoesOn o x1 p1 h) fun r5 h4 => ck (isB r5) (some (r5, h4))) else (bnd (F_X0_talkGoesOn o x1 p1 h) fun r3 h2 => ck (isB r3) (some (r3, h2))))))
def F_X0_talksTo_J77 (k8 : Int32 → Int32 → Int32 → Hp → Option (Int32 × Hp)) (q1 : Nat) (x2 : Int32) (x3 : Int32) (x32 : Int32) (x33 : Int32) (x34 : Int32) (h35 : Hp) : Option (Int32 × Hp) :=
  if x33 = (0 : Int32) then (nm (x34 + (1 : Int32)) fun x37 => k8 x32 (1 : Int32) x37 h35) else (nm (x34 + (1 : Int32)) fun x36 => k8 x32 (0 : Int32) x36 h35)
def F_X0_talksTo_J70 (k8 : Int32 → Int32 → Int32 → Hp → Option (Int32 × Hp)) (q1 : Nat) (x2 : Int32) (x3 : Int32) (x24 : Int32) (x25 : Int32) (x26 : Int32) (h27 : Hp) : Option (Int32 × Hp) :=
  nm (x24 ||| ((1 : Int32) <<< (x26 &&& 31))) fun x28 => F_X0_talksTo_J77 (k8) q1 x2 x3 x28 x25 x26 h27
def F_X0_talksTo_J34 (k8 : Int32 → Int32 → Int32 → Hp → Option (Int32 × Hp)) (q1 : Nat) (x2 : Int32) (x3 : Int32) (x11 : Int32) (x12 : Int32) (x13 : Int32) (y14 : Int32) (h15 : Hp) : Option (Int32 × Hp) :=
  (h15.2 q1 8).bind fun q16 => ck (aIn shC q16 x13) (bnd (F_X0_catches q1 x2 y14 x13 (h15.1 q16 (x13).toNatClampNeg) h15) fun r18 h17 => if r18 = (0 : Int32) then (nm (x13 + (1 : Int32)) fun x19 => k8 x11 x12 x19 h17) else ((h17.2 q1 3).bind fun q20 => ck (aIn shC q20 x2) (if (h17.1 q20 (x2).toNatClampNeg) = (2 : Int32) then (if x12 = (0 : Int32) then (F_X0_talksTo_J77 (k8) q1 x2 x3 x11 x12 x13 h17) else (F_X0_talksTo_J70 (k8) q1 x2 x3 x11 x12 x13 h17)) else (F_X0_talksTo_J70 (k8) q1 x2 x3 x11 x12 x13 h17))))
def F_X0_talksTo_L8 (q1 : Nat) (x2 : Int32) (x3 : Int32) : Nat → Int32 → Int32 → Int32 → Hp → Option (Int32 × Hp)
  | 0, _, _, _, _ => none
  | N + 1, x4, x5, x6, h7 =>
  if (h7.1 q1 2) ≤ x6 then (some (x4, h7)) else (if x3 = (-9 : Int32) then (bnd (F_X0_cellarOn q1 x2 x6 h7) fun r43 h42 => F_X0_talksTo_J34 (F_X0_talksTo_L8 q1 x2 x3 N) q1 x2 x3 x4 x5 x6 r43 h42) else (F_X0_talksTo_J34 (F_X0_talksTo_L8 q1 x2 x3 N) q1 x2 x3 x4 x5 x6 x3 h7))
def F_X0_talksTo (o : Nat) (p0 : Int32) (p1 : Int32) (h : Hp) : Option (Int32 × Hp) :=
  F_X0_talksTo_L8 o p0 p1 FU (0 : Int32) (1 : Int32) (0 : Int32) h
def F_X0_talkAt_L10 (x2 : Int32) : Nat → Int32 → Int32 → Hp → Option (Int32 × Hp)
  | 0, _, _, _ => none
  | N + 1, x3, x4, h5 =>
  if x4 < (0 : Int32) then (some ((-9 : Int32), h5)) else (if ((x2 >>> (x4 &&& 31)) &&& (1 : Int32)) = (0 : Int32) then (nm (x4 + (-1 : Int32)) fun x6 => F_X0_talkAt_L10 x2 N x3 x6 h5) else (if x3 = (0 : Int32) then (some (x4, h5)) else (nm (x3 + (-1 : Int32)) fun x7 => nm (x4 + (-1 : Int32)) fun x8 => F_X0_talkAt_L10 x2 N x7 x8 h5)))
def F_X0_talkAt (o : Nat) (p0 : Int32) (p1 : Int32) (h : Hp) : Option (Int32 × Hp) :=
  nm ((h.1 o 2) - (1 : Int32)) fun x1 => F_X0_talkAt_L10 p0 FU p1 x1 h
def F_X0_readingsAreSo_L2 (k29 : Hp → Option (Int32 × Hp)) (q1 : Nat) : Nat → Int32 → Hp → Option (Int32 × Hp)
  | 0, _, _ => none
  | N + 1, x2, h3 =>
  if (h3.1 q1 1) ≤ x2 then (k29 h3) else ((h3.2 q1 13).bind fun q4 => bnd (F_X0_talksTo q1 x2 (-9 : Int32) h3) fun r6 h5 => ck (aIn shC q4 x2) (nm (pI h5 q4 (x2).toNatClampNeg r6) fun h7 => nm (x2 + (1 : Int32)) fun x8 => F_X0_readingsAreSo_L2 k29 q1 N x8 h7))
def F_X0_readingsAreSo_J87 (k31 : Int32 → Hp → Option (Int32 × Hp)) (q11 : Nat) (x24 : Int32) (y25 : Int32) (h26 : Hp) : Option (Int32 × Hp) :=
  gO shC (h26.2 q11 11) 3 fun q27 => (h26.2 q27 2).bind fun q28 => ck (aIn shC q28 x24) (if y25 = (h26.1 q28 (x24).toNatClampNeg) then (nm (x24 + (1 : Int32)) fun x29 => k31 x29 h26) else (some ((0 : Int32), h26)))
def F_X0_readingsAreSo_L31 (q11 : Nat) : Nat → Int32 → Hp → Option (Int32 × Hp)
  | 0, _, _ => none
  | N + 1, x12, h13 =>
  gO shC (h13.2 q11 11) 3 fun q14 => if (h13.1 q14 3) ≤ x12 then (some ((1 : Int32), h13)) else ((h13.2 q11 13).bind fun q15 => gO shC (h13.2 q11 11) 3 fun q16 => (h13.2 q16 0).bind fun q17 => ck (aIn shC q17 x12) (ck (aIn shC q15 (h13.1 q17 (x12).toNatClampNeg)) (gO shC (h13.2 q11 11) 3 fun q18 => (h13.2 q18 1).bind fun q19 => ck (aIn shC q19 x12) (bnd (F_X0_talkAt q11 (h13.1 q15 ((h13.1 q17 (x12).toNatClampNeg)).toNatClampNeg) (h13.1 q19 (x12).toNatClampNeg) h13) fun r21 h20 => if r21 = (-9 : Int32) then (F_X0_readingsAreSo_J87 (F_X0_readingsAreSo_L31 q11 N) q11 x12 (-9 : Int32) h20) else ((h20.2 q11 9).bind fun q22 => ck (aIn shC q22 r21) (F_X0_readingsAreSo_J87 (F_X0_readingsAreSo_L31 q11 N) q11 x12 (h20.1 q22 (r21).toNatClampNeg) h20))))))
def F_X0_readingsAreSo (o : Nat) (h : Hp) : Option (Int32 × Hp) :=
  F_X0_readingsAreSo_L2 (fun h10 => F_X0_readingsAreSo_L31 o FU (0 : Int32) h10) o FU (0 : Int32) h
def F_X0_takeText_L34 (k64 : Hp → Option (Int32 × Hp)) (q8 : Nat) (q9 : Nat) (x10 : Int32) (x11 : Int32) : Nat → Int32 → Hp → Option (Int32 × Hp)
  | 0, _, _ => none
  | N + 1, x12, h13 =>
  if x11 ≤ x12 then (k64 h13) else (ck (aIn shC q9 (x10 + x12)) (bnd (F_X0_goesOn q8 x12 (h13.1 q9 ((x10 + x12)).toNatClampNeg) h13) fun r15 h14 => if r15 = (0 : Int32) then (some (x12, h14)) else (nm (x12 + (1 : Int32)) fun x16 => F_X0_takeText_L34 k64 q8 q9 x10 x11 N x16 h14)))
def F_X0_takeText (o : Nat) (p0 : Nat) (p1 : Int32) (p2 : Int32) (h : Hp) : Option (Int32 × Hp) :=
  nm (pI h o 0 (0 : Int32)) fun h1 => nm (pI h1 o 1 (0 : Int32)) fun h2 => nm (pI h2 o 2 (0 : Int32)) fun h3 => gO shC (h3.2 o 10) 3 fun q4 => nm (pI h3 q4 3 (0 : Int32)) fun h5 => gO shC (h5.2 o 11) 3 fun q6 => nm (pI h5 q6 3 (0 : Int32)) fun h7 => F_X0_takeText_L34 (fun h19 => if (h19.1 o 2) = (0 : Int32) then (some (p2, h19)) else (if ((p2 - (2 : Int32)) - (p2 - (2 : Int32)) / (4 : Int32) * (4 : Int32)) = (0 : Int32) then ((h19.2 o 6).bind fun q20 => bnd (F_J7_fill_53178 q20 (-9 : Int32) h19) fun _ h21 => bnd (F_X0_carry o h21) fun _ h22 => some ((-9 : Int32), h22)) else (some (p2, h19)))) o p0 p1 p2 FU (0 : Int32) h7
def F_X0_wordsDown_L13 (q2 : Nat) (x3 : Int32) : Nat → Int32 → Int32 → Int32 → Hp → Option (Int32 × Hp)
  | 0, _, _, _, _ => none
  | N + 1, x4, x5, x6, h7 =>
  if x6 < (0 : Int32) then (some (x4, h7)) else (if x5 ≤ (0 : Int32) then (some (x4, h7)) else (if ((x3 >>> (x6 &&& 31)) &&& (1 : Int32)) = (0 : Int32) then (nm (x6 + (-1 : Int32)) fun x8 => F_X0_wordsDown_L13 q2 x3 N x4 x5 x8 h7) else ((h7.2 q2 9).bind fun q9 => ck (aIn shC q9 x6) (nm (x4 ||| ((1 : Int32) <<< ((h7.1 q9 (x6).toNatClampNeg) &&& 31))) fun x10 => nm (x5 + (-1 : Int32)) fun x11 => nm (x6 + (-1 : Int32)) fun x12 => F_X0_wordsDown_L13 q2 x3 N x10 x11 x12 h7))))
def F_X0_wordsDown (o : Nat) (p0 : Int32) (p1 : Int32) (h : Hp) : Option (Int32 × Hp) :=
  nm ((h.1 o 2) - (1 : Int32)) fun x1 => F_X0_wordsDown_L13 o p0 FU (0 : Int32) p1 x1 h
def F_X0_wordsTo (o : Nat) (p0 : Int32) (p1 : Int32) (h : Hp) : Option (Int32 × Hp) :=
  bnd (F_X0_talksTo o p0 p1 h) fun r2 h1 => bnd (F_X0_wordsDown o r2 (8 : Int32) h1) fun r4 h3 => some (r4, h3)
def F_X1_begin (o : Nat) (p0 : Int32) (p1 : Int32) (h : Hp) : Option (Unit × Hp) :=
  nm (pI h o 1 p0) fun h1 => nm (pI h1 o 2 p1) fun h2 => (h2.2 o 0).bind fun q3 => bnd (F_J7_fill_53178 q3 (0 : Int32) h2) fun _ h4 => some ((), h4)
def F_X1_cutToLane (o : Nat) (p0 : Int32) (h : Hp) : Option (Int32 × Hp) :=
  if (h.1 o 1) = (0 : Int32) then (some ((p0).toInt8.toInt32, h)) else (if (h.1 o 1) = (1 : Int32) then (some ((p0).toInt16.toInt32, h)) else (some (p0, h)))
def F_X1_hasNothing (o : Nat) (h : Hp) : Option (Int32 × Hp) :=
  if (0 : Int32) ≤ (h.1 o 2) then (some ((0 : Int32), h)) else (some ((1 : Int32), h))
def F_X1_empty (o : Nat) (h : Hp) : Option (Int32 × Hp) :=
  bnd (F_X1_hasNothing o h) fun r2 h1 => if r2 = (0 : Int32) then (nm (pI h1 o 2 (-9 : Int32)) fun h4 => some ((1 : Int32), h4)) else (nm (pI h1 o 2 (-9 : Int32)) fun h3 => some ((0 : Int32), h3))
def F_X1_faultAs (o : Nat) (p0 : Int32) (h : Hp) : Option (Int32 × Hp) :=
  bnd (F_X1_hasNothing o h) fun r2 h1 => if r2 = (0 : Int32) then (if (h1.1 o 1) = p0 then (some ((0 : Int32), h1)) else (some ((2 : Int32), h1))) else (some ((1 : Int32), h1))
def F_X1_hasCells (o : Nat) (p0 : Int32) (p1 : Int32) (h : Hp) : Option (Int32 × Hp) :=
  if p0 < (0 : Int32) then (some ((0 : Int32), h)) else (if (h.1 o 2) < p0 then (some ((0 : Int32), h)) else (if p1 < (0 : Int32) then (some ((0 : Int32), h)) else (if ((h.1 o 2) - p0) < p1 then (some ((0 : Int32), h)) else (some ((1 : Int32), h)))))
def F_X2_shelveFrom_L43 (rec : Nat → Int32 → Int32 → Hp → Option (Unit × Hp)) (q1 : Nat) (x2 : Int32) (x3 : Int32) : Nat → Int32 → Hp → Option (Unit × Hp)
  | 0, _, _ => none
  | N + 1, x4, h5 =>
  if (h5.1 q1 5) ≤ x4 then (some ((), h5)) else ((h5.2 q1 3).bind fun q6 => ck (aIn shC q6 x2) (nm (pI h5 q6 (x2).toNatClampNeg x4) fun h7 => (h7.2 q1 2).bind fun q8 => ck (aRn shC 3 q8 x2) ((h7.2 q8 (x2).toNatClampNeg).bind fun q9 => ck (aIn shC q9 x4) (bnd (rec q1 (x2 + (1 : Int32)) (x3 ||| (h7.1 q9 (x4).toNatClampNeg)) h7) fun _ h10 => nm (x4 + (1 : Int32)) fun x11 => F_X2_shelveFrom_L43 rec q1 x2 x3 N x11 h10))))
def F_X2_shelveFrom_B (rec : Nat → Int32 → Int32 → Hp → Option (Unit × Hp)) (o : Nat) (p0 : Int32) (p1 : Int32) (h : Hp) : Option (Unit × Hp) :=
  if p0 < (h.1 o 4) then (F_X2_shelveFrom_L43 rec o p0 p1 FU (0 : Int32) h) else (bnd (F_J6_bitCount_0f7a4 p1 h) fun r14 h13 => if r14 ≤ (h13.1 o 1) then (some ((), h13)) else (nm (pI h13 o 1 r14) fun h15 => (h15.2 o 3).bind fun q16 => (h15.2 o 0).bind fun q17 => ck (aCp shC q16 (0 : Int32) q17 (0 : Int32) (4 : Int32)) (nm (pC h15 q16 q17 ((0 : Int32)).toNatClampNeg ((0 : Int32)).toNatClampNeg ((4 : Int32)).toNatClampNeg) fun h18 => some ((), h18))))
def F_X2_shelveFrom : Nat → Nat → Int32 → Int32 → Hp → Option (Unit × Hp)
  | 0, _, _, _, _ => none
  | N + 1, o, p0, p1, h => F_X2_shelveFrom_B (F_X2_shelveFrom N) o p0 p1 h
def F_X2_find_L34 (k62 : Hp → Option (Unit × Hp)) (q8 : Nat) (q9 : Nat) (x10 : Int32) : Nat → Int32 → Hp → Option (Unit × Hp)
  | 0, _, _ => none
  | N + 1, x11, h12 =>
  if (h12.1 q8 5) ≤ x11 then (k62 h12) else ((h12.2 q8 2).bind fun q13 => ck (aRn shC 3 q13 x10) ((h12.2 q13 (x10).toNatClampNeg).bind fun q14 => bnd (F_X0_wordsTo q9 x10 x11 h12) fun r16 h15 => ck (aIn shC q14 x11) (nm (pI h15 q14 (x11).toNatClampNeg r16) fun h17 => nm (x11 + (1 : Int32)) fun x18 => F_X2_find_L34 k62 q8 q9 x10 N x18 h17)))
def F_X2_find_L24 (k68 : Hp → Option (Unit × Hp)) (q4 : Nat) (q5 : Nat) : Nat → Int32 → Hp → Option (Unit × Hp)
  | 0, _, _ => none
  | N + 1, x6, h7 =>
  if (h7.1 q4 4) ≤ x6 then (k68 h7) else (F_X2_find_L34 (fun h20 => nm (x6 + (1 : Int32)) fun x21 => F_X2_find_L24 k68 q4 q5 N x21 h20) q4 q5 x6 FU (0 : Int32) h7)
def F_X2_find (o : Nat) (p0 : Nat) (h : Hp) : Option (Unit × Hp) :=
  nm (pI h o 4 (h.1 p0 1)) fun h1 => nm (pI h1 o 5 (h1.1 p0 0)) fun h2 => nm (pI h2 o 1 (-9 : Int32)) fun h3 => F_X2_find_L24 (fun h23 => bnd (F_X2_shelveFrom 8 o (0 : Int32) (0 : Int32) h23) fun _ h24 => some ((), h24)) o p0 FU (0 : Int32) h3
def F_X3_add (o : Nat) (p0 : Int32) (p1 : Int32) (p2 : Int32) (h : Hp) : Option (Int32 × Hp) :=
  if (h.1 o 3) < (8 : Int32) then ((h.2 o 0).bind fun q1 => ck (aIn shC q1 (h.1 o 3)) (nm (pI h q1 ((h.1 o 3)).toNatClampNeg p0) fun h2 => (h2.2 o 1).bind fun q3 => ck (aIn shC q3 (h2.1 o 3)) (nm (pI h2 q3 ((h2.1 o 3)).toNatClampNeg p1) fun h4 => (h4.2 o 2).bind fun q5 => ck (aIn shC q5 (h4.1 o 3)) (nm (pI h4 q5 ((h4.1 o 3)).toNatClampNeg p2) fun h6 => nm (pI h6 o 3 ((h6.1 o 3) + (1 : Int32))) fun h7 => some (((h7.1 o 3) - (1 : Int32)), h7))))) else (some ((-4 : Int32), h))
def F_X3_takeBack (o : Nat) (p0 : Int32) (h : Hp) : Option (Int32 × Hp) :=
  if p0 < (0 : Int32) then (some ((-2 : Int32), h)) else (if p0 ≤ (h.1 o 3) then (nm (pI h o 3 ((h.1 o 3) - p0)) fun h1 => some ((h1.1 o 3), h1)) else (some ((-2 : Int32), h)))
def F_X4_cutFrom_J118 (rec : Nat → Int32 → Int32 → Int32 → Hp → Option (Unit × Hp)) (k79 : Int32 → Hp → Option (Unit × Hp)) (q13 : Nat) (x14 : Int32) (x15 : Int32) (x16 : Int32) (x24 : Int32) (h25 : Hp) : Option (Unit × Hp) :=
  (h25.2 q13 5).bind fun q26 => ck (aIn shC q26 x14) (nm (pI h25 q26 (x14).toNatClampNeg x24) fun h27 => (h27.2 q13 2).bind fun q28 => ck (aRn shC 3 q28 x14) ((h27.2 q28 (x14).toNatClampNeg).bind fun q29 => ck (aIn shC q29 x24) (bnd (rec q13 (x14 + (1 : Int32)) (x15 ||| (h27.1 q29 (x24).toNatClampNeg)) (x16 + x24) h27) fun _ h30 => nm (x24 + (1 : Int32)) fun x31 => k79 x31 h30)))
def F_X4_cutFrom_L79 (rec : Nat → Int32 → Int32 → Int32 → Hp → Option (Unit × Hp)) (q13 : Nat) (x14 : Int32) (x15 : Int32) (x16 : Int32) : Nat → Int32 → Hp → Option (Unit × Hp)
  | 0, _, _ => none
  | N + 1, x17, h18 =>
  (h18.2 q13 3).bind fun q19 => ck (aIn shC q19 x14) (if (h18.1 q19 (x14).toNatClampNeg) < x17 then (some ((), h18)) else (if x17 = (0 : Int32) then (F_X4_cutFrom_J118 rec (F_X4_cutFrom_L79 rec q13 x14 x15 x16 N) q13 x14 x15 x16 x17 h18) else ((h18.2 q13 2).bind fun q32 => ck (aRn shC 3 q32 x14) ((h18.2 q32 (x14).toNatClampNeg).bind fun q33 => ck (aIn shC q33 x17) ((h18.2 q13 2).bind fun q34 => ck (aRn shC 3 q34 x14) ((h18.2 q34 (x14).toNatClampNeg).bind fun q35 => ck (aIn shC q35 (x17 - (1 : Int32))) (if (h18.1 q33 (x17).toNatClampNeg) = (h18.1 q35 ((x17 - (1 : Int32))).toNatClampNeg) then (nm (x17 + (1 : Int32)) fun x36 => F_X4_cutFrom_L79 rec q13 x14 x15 x16 N x36 h18) else (F_X4_cutFrom_J118 rec (F_X4_cutFrom_L79 rec q13 x14 x15 x16 N) q13 x14 x15 x16 x17 h18))))))))
def F_X4_cutFrom_J22 (rec : Nat → Int32 → Int32 → Int32 → Hp → Option (Unit × Hp)) (q6 : Nat) (x7 : Int32) (x8 : Int32) (x9 : Int32) (y10 : Int32) (h11 : Hp) : Option (Unit × Hp) :=
  if y10 = (0 : Int32) then (some ((), h11)) else ((h11.2 q6 4).bind fun q12 => ck (aIn shC q12 x7) (if ((h11.1 q6 7) &&& ((x8 ||| (h11.1 q12 (x7).toNatClampNeg)) ^^^ (-1 : Int32))) = (0 : Int32) then (if x7 < (h11.1 q6 6) then (F_X4_cutFrom_L79 rec q6 x7 x8 x9 FU (0 : Int32) h11) else (nm (pI h11 q6 1 x9) fun h40 => (h40.2 q6 5).bind fun q41 => (h40.2 q6 0).bind fun q42 => ck (aCp shC q41 (0 : Int32) q42 (0 : Int32) (4 : Int32)) (nm (pC h40 q41 q42 ((0 : Int32)).toNatClampNeg ((0 : Int32)).toNatClampNeg ((4 : Int32)).toNatClampNeg) fun h43 => some ((), h43)))) else (some ((), h11))))
def F_X4_cutFrom_J17 (rec : Nat → Int32 → Int32 → Int32 → Hp → Option (Unit × Hp)) (q1 : Nat) (x2 : Int32) (x3 : Int32) (x4 : Int32) (h5 : Hp) : Option (Unit × Hp) :=
  F_X4_cutFrom_J22 rec q1 x2 x3 x4 (1 : Int32) h5
def F_X4_cutFrom_B (rec : Nat → Int32 → Int32 → Int32 → Hp → Option (Unit × Hp)) (o : Nat) (p0 : Int32) (p1 : Int32) (p2 : Int32) (h : Hp) : Option (Unit × Hp) :=
  if (h.1 o 1) = (-9 : Int32) then (F_X4_cutFrom_J17 rec o p0 p1 p2 h) else (if (h.1 o 1) ≤ p2 then (F_X4_cutFrom_J22 rec o p0 p1 p2 (0 : Int32) h) else (F_X4_cutFrom_J17 rec o p0 p1 p2 h))
def F_X4_cutFrom : Nat → Nat → Int32 → Int32 → Int32 → Hp → Option (Unit × Hp)
  | 0, _, _, _, _, _ => none
  | N + 1, o, p0, p1, p2, h => F_X4_cutFrom_B (F_X4_cutFrom N) o p0 p1 p2 h
def F_X4_measure_L19 (q5 : Nat) (q6 : Nat) (x7 : Int32) (x8 : Int32) (x9 : Int32) (x10 : Int32) : Nat → Int32 → Hp → Option (Unit × Hp)
  | 0, _, _ => none
  | N + 1, x11, h12 =>
  if x10 < x11 then (some ((), h12)) else (bnd (F_X0_wordsDown q6 x9 x11 h12) fun r14 h13 => if (r14 &&& x8) = (0 : Int32) then ((h13.2 q5 2).bind fun q15 => ck (aRn shC 3 q15 x7) ((h13.2 q15 (x7).toNatClampNeg).bind fun q16 => ck (aIn shC q16 x11) (nm (pI h13 q16 (x11).toNatClampNeg r14) fun h17 => (h17.2 q5 3).bind fun q18 => ck (aIn shC q18 x7) (nm (pI h17 q18 (x7).toNatClampNeg x11) fun h19 => nm (x11 + (1 : Int32)) fun x20 => F_X4_measure_L19 q5 q6 x7 x8 x9 x10 N x20 h19)))) else (some ((), h13)))
def F_X4_measure (o : Nat) (p0 : Nat) (p1 : Int32) (p2 : Int32) (h : Hp) : Option (Unit × Hp) :=
  bnd (F_X0_talksTo p0 p1 (-9 : Int32) h) fun r2 h1 => bnd (F_J6_bitCount_0f7a4 r2 h1) fun r4 h3 => F_X4_measure_L19 o p0 p1 p2 r2 r4 FU (0 : Int32) h3
def F_X4_find_L37 (k88 : Hp → Option (Unit × Hp)) (q7 : Nat) (q8 : Nat) (x9 : Int32) : Nat → Int32 → Hp → Option (Unit × Hp)
  | 0, _, _ => none
  | N + 1, x10, h11 =>
  if x10 < (0 : Int32) then (k88 h11) else (bnd (F_X4_measure q7 q8 x10 x9 h11) fun _ h12 => (h12.2 q7 4).bind fun q13 => (h12.2 q7 4).bind fun q14 => ck (aIn shC q14 (x10 + (1 : Int32))) ((h12.2 q7 2).bind fun q15 => ck (aRn shC 3 q15 x10) ((h12.2 q15 (x10).toNatClampNeg).bind fun q16 => (h12.2 q7 3).bind fun q17 => ck (aIn shC q17 x10) (ck (aIn shC q16 (h12.1 q17 (x10).toNatClampNeg)) (ck (aIn shC q13 x10) (nm (pI h12 q13 (x10).toNatClampNeg ((h12.1 q14 ((x10 + (1 : Int32))).toNatClampNeg) ||| (h12.1 q16 ((h12.1 q17 (x10).toNatClampNeg)).toNatClampNeg))) fun h18 => nm (x10 + (-1 : Int32)) fun x19 => F_X4_find_L37 k88 q7 q8 x9 N x19 h18))))))
def F_X4_find (o : Nat) (p0 : Nat) (p1 : Int32) (p2 : Int32) (h : Hp) : Option (Unit × Hp) :=
  nm (pI h o 6 (h.1 p0 1)) fun h1 => nm (pI h1 o 7 p1) fun h2 => nm (pI h2 o 1 (-9 : Int32)) fun h3 => (h3.2 o 4).bind fun q4 => ck (aIn shC q4 (h3.1 o 6)) (nm (pI h3 q4 ((h3.1 o 6)).toNatClampNeg (0 : Int32)) fun h5 => nm ((h5.1 o 6) - (1 : Int32)) fun x6 => F_X4_find_L37 (fun h21 => bnd (F_X4_cutFrom 8 o (0 : Int32) (0 : Int32) (0 : Int32) h21) fun _ h22 => some ((), h22)) o p0 p2 FU x6 h5)
def F_X5_reduce_L2 (q1 : Nat) : Nat → Int32 → Hp → Option (Unit × Hp)
  | 0, _, _ => none
  | N + 1, x2, h3 =>
  if (8 : Int32) ≤ x2 then (some ((), h3)) else (if (h3.1 q1 3) ≤ (1 : Int32) then (some ((), h3)) else (if ((h3.1 q1 2) - (h3.1 q1 2) / (2 : Int32) * (2 : Int32)) = (0 : Int32) then (nm (pI h3 q1 2 ((h3.1 q1 2) / (2 : Int32))) fun h4 => nm (pI h4 q1 3 ((h4.1 q1 3) / (2 : Int32))) fun h5 => nm (x2 + (1 : Int32)) fun x6 => F_X5_reduce_L2 q1 N x6 h5) else (some ((), h3))))
def F_X5_reduce (o : Nat) (h : Hp) : Option (Unit × Hp) :=
  F_X5_reduce_L2 o FU (0 : Int32) h
def F_X5_spread_J120 (k54 : Int32 → Hp → Option (Unit × Hp)) (q19 : Nat) (x20 : Int32) (x21 : Int32) (x22 : Int32) (x29 : Int32) (x30 : Int32) (h31 : Hp) : Option (Unit × Hp) :=
  (h31.2 q19 1).bind fun q32 => ck (aIn shC q32 x30) ((h31.2 q19 0).bind fun q33 => ck (aIn shC q33 x29) (ck (aIn shC q32 x30) (nm (pI h31 q32 (x30).toNatClampNeg ((h31.1 q32 (x30).toNatClampNeg) + (h31.1 q33 (x29).toNatClampNeg))) fun h34 => nm (x29 + (1 : Int32)) fun x35 => k54 x35 h34)))
def F_X5_spread_J118 (k54 : Int32 → Hp → Option (Unit × Hp)) (q19 : Nat) (x20 : Int32) (x21 : Int32) (x22 : Int32) (x60 : Int32) (y61 : Int32) (h62 : Hp) : Option (Unit × Hp) :=
  F_X5_spread_J120 (k54) q19 x20 x21 x22 x60 y61 h62
def F_X5_spread_J102 (k54 : Int32 → Hp → Option (Unit × Hp)) (q19 : Nat) (x20 : Int32) (x21 : Int32) (x22 : Int32) (x53 : Int32) (y54 : Int32) (h55 : Hp) : Option (Unit × Hp) :=
  if x21 = (0 : Int32) then (F_X5_spread_J118 (k54) q19 x20 x21 x22 x53 y54 h55) else (F_X5_spread_J118 (k54) q19 x20 x21 x22 x53 (y54 ^^^ (2 : Int32)) h55)
def F_X5_spread_J100 (k54 : Int32 → Hp → Option (Unit × Hp)) (q19 : Nat) (x20 : Int32) (x21 : Int32) (x22 : Int32) (x47 : Int32) (h48 : Hp) : Option (Unit × Hp) :=
  F_X5_spread_J102 (k54) q19 x20 x21 x22 x47 x47 h48
def F_X5_spread_J81 (k54 : Int32 → Hp → Option (Unit × Hp)) (q19 : Nat) (x20 : Int32) (x21 : Int32) (x22 : Int32) (x40 : Int32) (y41 : Int32) (h42 : Hp) : Option (Unit × Hp) :=
  if x22 = (0 : Int32) then (F_X5_spread_J100 (k54) q19 x20 x21 x22 x40 h42) else (if y41 = (0 : Int32) then (F_X5_spread_J102 (k54) q19 x20 x21 x22 x40 (x40 ||| (1 : Int32)) h42) else (F_X5_spread_J100 (k54) q19 x20 x21 x22 x40 h42))
def F_X5_spread_L54 (q19 : Nat) (x20 : Int32) (x21 : Int32) (x22 : Int32) : Nat → Int32 → Hp → Option (Unit × Hp)
  | 0, _, _ => none
  | N + 1, x23, h24 =>
  if (4 : Int32) ≤ x23 then (some ((), h24)) else (if x20 = (0 : Int32) then (F_X5_spread_J120 (F_X5_spread_L54 q19 x20 x21 x22 N) q19 x20 x21 x22 x23 x23 h24) else (if (x23 &&& (2 : Int32)) = (0 : Int32) then (F_X5_spread_J81 (F_X5_spread_L54 q19 x20 x21 x22 N) q19 x20 x21 x22 x23 (0 : Int32) h24) else (F_X5_spread_J81 (F_X5_spread_L54 q19 x20 x21 x22 N) q19 x20 x21 x22 x23 (1 : Int32) h24)))
def F_X5_spread_J49 (q14 : Nat) (x15 : Int32) (x16 : Int32) (y17 : Int32) (h18 : Hp) : Option (Unit × Hp) :=
  F_X5_spread_L54 q14 x15 x16 y17 FU (0 : Int32) h18
def F_X5_spread_J31 (q6 : Nat) (q7 : Nat) (x8 : Int32) (x9 : Int32) (x10 : Int32) (y11 : Int32) (h12 : Hp) : Option (Unit × Hp) :=
  (h12.2 q7 9).bind fun q13 => ck (aIn shC q13 x8) (if (h12.1 q13 (x8).toNatClampNeg) = x9 then (F_X5_spread_J49 q6 x10 y11 (1 : Int32) h12) else (F_X5_spread_J49 q6 x10 y11 (0 : Int32) h12))
def F_X5_spread (o : Nat) (p0 : Nat) (p1 : Int32) (p2 : Int32) (p3 : Int32) (p4 : Int32) (h : Hp) : Option (Unit × Hp) :=
  bnd (F_X0_cellarOn p0 p1 p2 h) fun r2 h1 => bnd (F_X0_catches p0 p1 r2 p2 p3 h1) fun r4 h3 => (h3.2 p0 3).bind fun q5 => ck (aIn shC q5 p1) (if (h3.1 q5 (p1).toNatClampNeg) = (2 : Int32) then (F_X5_spread_J31 o p0 p2 p4 r4 (1 : Int32) h3) else (F_X5_spread_J31 o p0 p2 p4 r4 (0 : Int32) h3))
def F_X5_weigh_L18 (k87 : Hp → Option (Unit × Hp)) (q5 : Nat) (q6 : Nat) (x7 : Int32) (x8 : Int32) : Nat → Int32 → Hp → Option (Unit × Hp)
  | 0, _, _ => none
  | N + 1, x9, h10 =>
  if (h10.1 q6 2) ≤ x9 then (k87 h10) else ((h10.2 q5 1).bind fun q11 => bnd (F_J7_fill_53178 q11 (0 : Int32) h10) fun _ h12 => bnd (F_X5_spread q5 q6 x7 x9 (1 : Int32) x8 h12) fun _ h13 => (h13.2 q6 8).bind fun q14 => ck (aIn shC q14 x9) (bnd (F_X5_spread q5 q6 x7 x9 (h13.1 q14 (x9).toNatClampNeg) x8 h13) fun _ h15 => (h15.2 q5 0).bind fun q16 => (h15.2 q5 1).bind fun q17 => nm (pR h15 q5 0 (some q17)) fun h18 => nm (pR h18 q5 1 (some q16)) fun h19 => nm (x9 + (1 : Int32)) fun x20 => F_X5_weigh_L18 k87 q5 q6 x7 x8 N x20 h19))
def F_X5_weigh (o : Nat) (p0 : Nat) (p1 : Int32) (p2 : Int32) (h : Hp) : Option (Unit × Hp) :=
  (h.2 o 0).bind fun q1 => bnd (F_J7_fill_53178 q1 (0 : Int32) h) fun _ h2 => (h2.2 o 0).bind fun q3 => ck (aIn shC q3 (0 : Int32)) (nm (pI h2 q3 ((0 : Int32)).toNatClampNeg (1 : Int32)) fun h4 => F_X5_weigh_L18 (fun h22 => (h22.2 o 0).bind fun q23 => ck (aIn shC q23 (1 : Int32)) ((h22.2 o 0).bind fun q24 => ck (aIn shC q24 (3 : Int32)) (nm (pI h22 o 2 ((h22.1 q23 ((1 : Int32)).toNatClampNeg) + (h22.1 q24 ((3 : Int32)).toNatClampNeg))) fun h25 => nm (pI h25 o 3 ((1 : Int32) <<< ((h25.1 p0 2) &&& 31))) fun h26 => bnd (F_X5_reduce o h26) fun _ h27 => some ((), h27)))) o p0 p1 p2 FU (0 : Int32) h4)
def F_X6_isCheese (o : Nat) (p0 : Int32) (h : Hp) : Option (Int32 × Hp) :=
  if p0 < (0 : Int32) then (some ((0 : Int32), h)) else (gO shC (h.2 o 4) 0 fun q1 => if (h.1 q1 1) ≤ p0 then (some ((0 : Int32), h)) else (some ((1 : Int32), h)))
def F_X6_alone_L23 (q6 : Nat) (x7 : Int32) : Nat → Int32 → Int32 → Hp → Option (Int32 × Hp)
  | 0, _, _, _ => none
  | N + 1, x8, x9, h10 =>
  gO shC (h10.2 q6 4) 0 fun q11 => if (h10.1 q11 1) ≤ x9 then (some (x8, h10)) else (if x9 = x7 then (nm (x9 + (1 : Int32)) fun x12 => F_X6_alone_L23 q6 x7 N x8 x12 h10) else (gO shC (h10.2 q6 4) 0 fun q13 => bnd (F_X0_wordsTo q13 x9 (-9 : Int32) h10) fun r15 h14 => nm (x8 &&& (r15 ^^^ (-1 : Int32))) fun x16 => nm (x9 + (1 : Int32)) fun x17 => F_X6_alone_L23 q6 x7 N x16 x17 h14))
def F_X6_alone (o : Nat) (p0 : Int32) (h : Hp) : Option (Int32 × Hp) :=
  bnd (F_X6_isCheese o p0 h) fun r2 h1 => if r2 = (0 : Int32) then (some ((-1 : Int32), h1)) else (gO shC (h1.2 o 4) 0 fun q3 => bnd (F_X0_wordsTo q3 p0 (-9 : Int32) h1) fun r5 h4 => F_X6_alone_L23 o p0 FU r5 (0 : Int32) h4)
def F_X6_faulty (o : Nat) (p0 : Int32) (h : Hp) : Option (Int32 × Hp) :=
  nm (pI h o 7 p0) fun h1 => some (((-10 : Int32) - p0), h1)
def F_X6_as (o : Nat) (p0 : Int32) (p1 : Int32) (h : Hp) : Option (Int32 × Hp) :=
  nm (pI h o 7 (0 : Int32)) fun h1 => bnd (F_X6_isCheese o p0 h1) fun r3 h2 => if r3 = (0 : Int32) then (some ((-1 : Int32), h2)) else (if p1 < (0 : Int32) then (some ((-2 : Int32), h2)) else (if p1 ≤ (2 : Int32) then (gO shC (h2.2 o 4) 0 fun q4 => (h2.2 q4 3).bind fun q5 => ck (aIn shC q5 p0) (if p1 ≤ (h2.1 q5 (p0).toNatClampNeg) then (some ((1 : Int32), h2)) else (bnd (F_X6_faulty o (2 : Int32) h2) fun r7 h6 => some (r7, h6)))) else (some ((-2 : Int32), h2))))
def F_X6_back (o : Nat) (p0 : Int32) (h : Hp) : Option (Int32 × Hp) :=
  gO shC (h.2 o 4) 0 fun q1 => gO shC (h.2 q1 11) 3 fun q2 => bnd (F_X3_takeBack q2 p0 h) fun r4 h3 => some (r4, h3)
def F_X6_isSheet (p0 : Int32) (h : Hp) : Option (Int32 × Hp) :=
  if p0 < (0 : Int32) then (some ((0 : Int32), h)) else (if (4 : Int32) ≤ p0 then (some ((0 : Int32), h)) else (some ((1 : Int32), h)))
def F_X6_isLane (p0 : Int32) (h : Hp) : Option (Int32 × Hp) :=
  if p0 < (0 : Int32) then (some ((0 : Int32), h)) else (if (2 : Int32) < p0 then (some ((0 : Int32), h)) else (some ((1 : Int32), h)))
def F_X6_cell_J63 (q11 : Nat) (x12 : Int32) (q13 : Nat) (h14 : Hp) : Option (Int64 × Hp) :=
  if (h14.1 q11 7) = (0 : Int32) then ((h14.2 q13 0).bind fun q15 => ck (aIn shC q15 x12) (some (((h14.1 q15 (x12).toNatClampNeg)).toInt64, h14))) else (some ((-9223372036854775808 : Int64), h14))
def F_X6_cell (o : Nat) (p0 : Int32) (p1 : Int32) (p2 : Int32) (h : Hp) : Option (Int64 × Hp) :=
  nm (pI h o 7 (0 : Int32)) fun h1 => bnd (F_X6_isSheet p0 h1) fun r3 h2 => if r3 = (0 : Int32) then (some ((-9223372036854775808 : Int64), h2)) else (bnd (F_X6_isLane p2 h2) fun r5 h4 => if r5 = (0 : Int32) then (some ((-9223372036854775808 : Int64), h4)) else ((h4.2 o 0).bind fun q6 => ck (aRn shC 2 q6 p0) (gO shC (h4.2 q6 (p0).toNatClampNeg) 1 fun q7 => bnd (F_X1_faultAs q7 p2 h4) fun r9 h8 => nm (pI h8 o 7 r9) fun h10 => if (h10.1 o 7) = (0 : Int32) then (bnd (F_X1_hasCells q7 p1 (1 : Int32) h10) fun r18 h17 => if r18 = (0 : Int32) then (nm (pI h17 o 7 (3 : Int32)) fun h19 => F_X6_cell_J63 o p1 q7 h19) else (F_X6_cell_J63 o p1 q7 h17)) else (F_X6_cell_J63 o p1 q7 h10))))
def F_X6_hasNoDairy (o : Nat) (h : Hp) : Option (Int32 × Hp) :=
  gO shC (h.2 o 4) 0 fun q1 => if (h.1 q1 2) = (0 : Int32) then (some ((1 : Int32), h)) else (some ((0 : Int32), h))
def F_X6_common_L16 (q3 : Nat) : Nat → Int32 → Int32 → Hp → Option (Int32 × Hp)
  | 0, _, _, _ => none
  | N + 1, x4, x5, h6 =>
  gO shC (h6.2 q3 4) 0 fun q7 => if (h6.1 q7 1) ≤ x5 then (some (x4, h6)) else (gO shC (h6.2 q3 4) 0 fun q8 => bnd (F_X0_wordsTo q8 x5 (-9 : Int32) h6) fun r10 h9 => nm (x4 &&& r10) fun x11 => nm (x5 + (1 : Int32)) fun x12 => F_X6_common_L16 q3 N x11 x12 h9)
def F_X6_common (o : Nat) (h : Hp) : Option (Int32 × Hp) :=
  bnd (F_X6_hasNoDairy o h) fun r2 h1 => if r2 = (0 : Int32) then (F_X6_common_L16 o FU (255 : Int32) (0 : Int32) h1) else (some ((-3 : Int32), h1))
def F_X6_copy_J53 (q12 : Nat) (h13 : Hp) : Option (Int32 × Hp) :=
  bnd (F_X6_faulty q12 (1 : Int32) h13) fun r15 h14 => some (r15, h14)
def F_X6_copy_J101 (q20 : Nat) (h21 : Hp) : Option (Int32 × Hp) :=
  bnd (F_X6_faulty q20 (3 : Int32) h21) fun r23 h22 => some (r23, h22)
def F_X6_copy (o : Nat) (p0 : Int32) (p1 : Int32) (p2 : Int32) (p3 : Int32) (p4 : Int32) (h : Hp) : Option (Int32 × Hp) :=
  nm (pI h o 7 (0 : Int32)) fun h1 => bnd (F_X6_isSheet p0 h1) fun r3 h2 => if r3 = (0 : Int32) then (some ((-1 : Int32), h2)) else (bnd (F_X6_isSheet p2 h2) fun r5 h4 => if r5 = (0 : Int32) then (some ((-1 : Int32), h4)) else ((h4.2 o 0).bind fun q6 => ck (aRn shC 2 q6 p0) (gO shC (h4.2 q6 (p0).toNatClampNeg) 1 fun q7 => (h4.2 o 0).bind fun q8 => ck (aRn shC 2 q8 p2) (gO shC (h4.2 q8 (p2).toNatClampNeg) 1 fun q9 => bnd (F_X1_hasNothing q7 h4) fun r11 h10 => if r11 = (0 : Int32) then (bnd (F_X1_hasNothing q9 h10) fun r17 h16 => if r17 = (0 : Int32) then (if (h16.1 q7 1) = (h16.1 q9 1) then (bnd (F_X1_hasCells q7 p1 p4 h16) fun r19 h18 => if r19 = (0 : Int32) then (F_X6_copy_J101 o h18) else (bnd (F_X1_hasCells q9 p3 p4 h18) fun r25 h24 => if r25 = (0 : Int32) then (F_X6_copy_J101 o h24) else ((h24.2 q7 0).bind fun q26 => (h24.2 q9 0).bind fun q27 => ck (aCp shC q26 p1 q27 p3 p4) (nm (pC h24 q26 q27 (p1).toNatClampNeg (p3).toNatClampNeg (p4).toNatClampNeg) fun h28 => some (p4, h28))))) else (bnd (F_X6_faulty o (2 : Int32) h16) fun r32 h31 => some (r32, h31))) else (F_X6_copy_J53 o h16)) else (F_X6_copy_J53 o h10)))))
def F_X6_cutPairs_L10 (k117 : Int32 → Int32 → Hp → Option (Int32 × Hp)) (q1 : Nat) (q2 : Nat) (x3 : Int32) (x4 : Int32) (x5 : Int32) : Nat → Int32 → Int32 → Int32 → Hp → Option (Int32 × Hp)
  | 0, _, _, _, _ => none
  | N + 1, x6, x7, x8, h9 =>
  if x4 ≤ x8 then (k117 x6 x7 h9) else (ck (aIn shC q2 (x3 + ((2 : Int32) * x8))) (nm (h9.1 q2 ((x3 + ((2 : Int32) * x8))).toNatClampNeg) fun x10 => ck (aIn shC q2 ((x3 + ((2 : Int32) * x8)) + (1 : Int32))) (nm (h9.1 q2 (((x3 + ((2 : Int32) * x8)) + (1 : Int32))).toNatClampNeg) fun x11 => bnd (F_X6_isCheese q1 x10 h9) fun r13 h12 => if r13 = (0 : Int32) then (some ((-1 : Int32), h12)) else (if x11 < (0 : Int32) then (some ((-2 : Int32), h12)) else (if x11 ≤ (8 : Int32) then (gO shC (h12.2 q1 4) 0 fun q14 => gO shC (h12.2 q1 4) 0 fun q15 => bnd (F_X0_talksTo q15 x10 (-9 : Int32) h12) fun r17 h16 => bnd (F_X0_wordsDown q14 r17 x11 h16) fun r19 h18 => nm (x6 ||| r19) fun x20 => if x20 = x6 then (if x7 = (-9 : Int32) then (nm (x8 + (1 : Int32)) fun x23 => F_X6_cutPairs_L10 k117 q1 q2 x3 x4 x5 N x20 x8 x23 h18) else (nm (x8 + (1 : Int32)) fun x22 => F_X6_cutPairs_L10 k117 q1 q2 x3 x4 x5 N x20 x7 x22 h18)) else (nm (x8 + (1 : Int32)) fun x21 => F_X6_cutPairs_L10 k117 q1 q2 x3 x4 x5 N x20 x7 x21 h18)) else (some ((-2 : Int32), h12)))))))
def F_X6_cutPairs (o : Nat) (p0 : Nat) (p1 : Int32) (p2 : Int32) (p3 : Int32) (h : Hp) : Option (Int32 × Hp) :=
  F_X6_cutPairs_L10 (fun w30 w31 h32 => if p3 = (0 : Int32) then (some (w30, h32)) else (some (w31, h32))) o p0 p1 p2 p3 FU (0 : Int32) (-9 : Int32) (0 : Int32) h
def F_X6_cuts_J84 (q10 : Nat) (x11 : Int32) (x12 : Int32) (x13 : Int32) (q14 : Nat) (x15 : Int32) (h16 : Hp) : Option (Int32 × Hp) :=
  if x15 = (0 : Int32) then (bnd (F_X6_hasNoDairy q10 h16) fun r18 h17 => if r18 = (0 : Int32) then ((h17.2 q14 0).bind fun q19 => bnd (F_X6_cutPairs q10 q19 x11 x12 x13 h17) fun r21 h20 => some (r21, h20)) else (some ((-3 : Int32), h17))) else (bnd (F_X6_faulty q10 x15 h16) fun r24 h23 => some (r24, h23))
def F_X6_cuts (o : Nat) (p0 : Int32) (p1 : Int32) (p2 : Int32) (p3 : Int32) (p4 : Int32) (h : Hp) : Option (Int32 × Hp) :=
  nm (pI h o 7 (0 : Int32)) fun h1 => bnd (F_X6_isSheet p0 h1) fun r3 h2 => if r3 = (0 : Int32) then (some ((-1 : Int32), h2)) else (bnd (F_X6_isLane p1 h2) fun r5 h4 => if r5 = (0 : Int32) then (some ((-2 : Int32), h4)) else (if p3 < (0 : Int32) then (some ((-2 : Int32), h4)) else (if (20 : Int32) < p3 then (some ((-2 : Int32), h4)) else (if p4 < (0 : Int32) then (some ((-2 : Int32), h4)) else (if p4 ≤ (1 : Int32) then ((h4.2 o 0).bind fun q6 => ck (aRn shC 2 q6 p0) (gO shC (h4.2 q6 (p0).toNatClampNeg) 1 fun q7 => bnd (F_X1_faultAs q7 p1 h4) fun r9 h8 => if r9 = (0 : Int32) then (bnd (F_X1_hasCells q7 p2 ((2 : Int32) * p3) h8) fun r27 h26 => if r27 = (0 : Int32) then (F_X6_cuts_J84 o p2 p3 p4 q7 (3 : Int32) h26) else (F_X6_cuts_J84 o p2 p3 p4 q7 r9 h26)) else (F_X6_cuts_J84 o p2 p3 p4 q7 r9 h8))) else (some ((-2 : Int32), h4)))))))
def F_X6_dairy_J72 (q16 : Nat) (x17 : Int32) (x18 : Int32) (q19 : Nat) (x20 : Int32) (h21 : Hp) : Option (Int32 × Hp) :=
  if x20 = (0 : Int32) then (gO shC (h21.2 q16 5) 0 fun q22 => (h21.2 q19 0).bind fun q23 => bnd (F_X0_takeText q22 q23 x17 x18 h21) fun r25 h24 => if r25 = (-9 : Int32) then (gO shC (h24.2 q16 4) 0 fun q26 => gO shC (h24.2 q16 5) 0 fun q27 => nm (pR h24 q16 4 (some q27)) fun h28 => nm (pR h28 q16 5 (some q26)) fun h29 => gO shC (h29.2 q16 4) 0 fun q30 => some ((h29.1 q30 2), h29)) else (some (((-100 : Int32) - r25), h24))) else (bnd (F_X6_faulty q16 x20 h21) fun r33 h32 => some (r33, h32))
def F_X6_dairy_J53 (q10 : Nat) (x11 : Int32) (x12 : Int32) (q13 : Nat) (x14 : Int32) (h15 : Hp) : Option (Int32 × Hp) :=
  if x14 = (0 : Int32) then (bnd (F_X1_hasCells q13 x11 x12 h15) fun r36 h35 => if r36 = (0 : Int32) then (F_X6_dairy_J72 q10 x11 x12 q13 (3 : Int32) h35) else (F_X6_dairy_J72 q10 x11 x12 q13 x14 h35)) else (F_X6_dairy_J72 q10 x11 x12 q13 x14 h15)
def F_X6_dairy (o : Nat) (p0 : Int32) (p1 : Int32) (p2 : Int32) (p3 : Int32) (h : Hp) : Option (Int32 × Hp) :=
  nm (pI h o 7 (0 : Int32)) fun h1 => bnd (F_X6_isSheet p0 h1) fun r3 h2 => if r3 = (0 : Int32) then (some ((-1 : Int32), h2)) else (bnd (F_X6_isLane p1 h2) fun r5 h4 => if r5 = (0 : Int32) then (some ((-2 : Int32), h4)) else ((h4.2 o 0).bind fun q6 => ck (aRn shC 2 q6 p0) (gO shC (h4.2 q6 (p0).toNatClampNeg) 1 fun q7 => bnd (F_X1_faultAs q7 p1 h4) fun r9 h8 => if r9 = (0 : Int32) then (if (0 : Int32) ≤ p3 then (F_X6_dairy_J53 o p2 p3 q7 r9 h8) else (F_X6_dairy_J53 o p2 p3 q7 (4 : Int32) h8)) else (F_X6_dairy_J53 o p2 p3 q7 r9 h8))))
def F_X6_isWord (p0 : Int32) (h : Hp) : Option (Int32 × Hp) :=
  if p0 < (0 : Int32) then (some ((0 : Int32), h)) else (if (7 : Int32) < p0 then (some ((0 : Int32), h)) else (some ((1 : Int32), h)))
def F_X6_deep (o : Nat) (p0 : Int32) (p1 : Int32) (h : Hp) : Option (Int32 × Hp) :=
  bnd (F_X6_isCheese o p0 h) fun r2 h1 => if r2 = (0 : Int32) then (some ((-1 : Int32), h1)) else (bnd (F_X6_isWord p1 h1) fun r4 h3 => if r4 = (0 : Int32) then (some ((-1 : Int32), h3)) else (gO shC (h3.2 o 4) 0 fun q5 => gO shC (h3.2 o 4) 0 fun q6 => bnd (F_X0_talksTo q6 p0 (-9 : Int32) h3) fun r8 h7 => bnd (F_X0_depthOf q5 r8 p1 h7) fun r10 h9 => some (r10, h9)))
def F_X6_fault (o : Nat) (h : Hp) : Option (Int32 × Hp) :=
  some ((h.1 o 7), h)
def F_X6_fitting_L11 (q2 : Nat) (q3 : Nat) (x4 : Int32) (x5 : Int32) (x6 : Int32) : Nat → Int32 → Int32 → Hp → Option (Int32 × Hp)
  | 0, _, _, _ => none
  | N + 1, x7, x8, h9 =>
  if x5 < x8 then (ck (aIn shC q3 x4) (nm (pI h9 q3 (x4).toNatClampNeg x6) fun h10 => some (x7, h10))) else (ck (aIn shC q3 x4) (nm (pI h9 q3 (x4).toNatClampNeg x8) fun h11 => gO shC (h11.2 q2 4) 0 fun q12 => bnd (F_X0_readingsAreSo q12 h11) fun r14 h13 => if r14 = (0 : Int32) then (nm (x8 + (1 : Int32)) fun x15 => F_X6_fitting_L11 q2 q3 x4 x5 x6 N x7 x15 h13) else (nm (x7 ||| ((1 : Int32) <<< (x8 &&& 31))) fun x16 => nm (x8 + (1 : Int32)) fun x17 => F_X6_fitting_L11 q2 q3 x4 x5 x6 N x16 x17 h13)))
def F_X6_fitting (o : Nat) (p0 : Nat) (p1 : Int32) (p2 : Int32) (p3 : Int32) (h : Hp) : Option (Int32 × Hp) :=
  ck (aIn shC p0 p1) (nm (h.1 p0 (p1).toNatClampNeg) fun x1 => F_X6_fitting_L11 o p0 p1 p3 x1 FU (0 : Int32) p2 h)
def F_X6_heard (o : Nat) (p0 : Int32) (h : Hp) : Option (Int32 × Hp) :=
  bnd (F_X6_isCheese o p0 h) fun r2 h1 => if r2 = (0 : Int32) then (some ((-1 : Int32), h1)) else (gO shC (h1.2 o 4) 0 fun q3 => bnd (F_X0_talksTo q3 p0 (-9 : Int32) h1) fun r5 h4 => some (r5, h4))
def F_X6_isDay (p0 : Int32) (h : Hp) : Option (Int32 × Hp) :=
  if p0 < (0 : Int32) then (some ((0 : Int32), h)) else (if (8 : Int32) ≤ p0 then (some ((0 : Int32), h)) else (some ((1 : Int32), h)))
def F_X6_isTalk (o : Nat) (p0 : Int32) (h : Hp) : Option (Int32 × Hp) :=
  if p0 < (0 : Int32) then (some ((0 : Int32), h)) else (gO shC (h.2 o 4) 0 fun q1 => if (h.1 q1 2) ≤ p0 then (some ((0 : Int32), h)) else (some ((1 : Int32), h)))
def F_X6_isWordSet (p0 : Int32) (h : Hp) : Option (Int32 × Hp) :=
  if p0 < (0 : Int32) then (some ((0 : Int32), h)) else (if (255 : Int32) < p0 then (some ((0 : Int32), h)) else (some ((1 : Int32), h)))
def F_X6_kinds (o : Nat) (p0 : Int32) (h : Hp) : Option (Int32 × Hp) :=
  bnd (F_X6_isCheese o p0 h) fun r2 h1 => if r2 = (0 : Int32) then (some ((-1 : Int32), h1)) else (gO shC (h1.2 o 4) 0 fun q3 => (h1.2 q3 3).bind fun q4 => bnd (F_X6_fitting o q4 p0 (0 : Int32) (2 : Int32) h1) fun r6 h5 => some (r6, h5))
def F_X6_lay (o : Nat) (p0 : Int32) (h : Hp) : Option (Int32 × Hp) :=
  bnd (F_X6_isCheese o p0 h) fun r2 h1 => if r2 = (0 : Int32) then (some ((-1 : Int32), h1)) else (gO shC (h1.2 o 4) 0 fun q3 => (h1.2 q3 4).bind fun q4 => gO shC (h1.2 o 4) 0 fun q5 => bnd (F_X6_fitting o q4 p0 (0 : Int32) ((h1.1 q5 0) - (1 : Int32)) h1) fun r7 h6 => some (r7, h6))
def F_X6_layer (o : Nat) (p0 : Int32) (p1 : Int32) (h : Hp) : Option (Int32 × Hp) :=
  bnd (F_X6_isCheese o p0 h) fun r2 h1 => if r2 = (0 : Int32) then (some ((-1 : Int32), h1)) else (if (0 : Int32) ≤ p1 then (gO shC (h1.2 o 4) 0 fun q3 => gO shC (h1.2 o 4) 0 fun q4 => bnd (F_X0_talksTo q4 p0 (-9 : Int32) h1) fun r6 h5 => bnd (F_X0_talkAt q3 r6 p1 h5) fun r8 h7 => some (r8, h7)) else (some ((-1 : Int32), h1)))
def F_X6_leave (o : Nat) (p0 : Int32) (h : Hp) : Option (Unit × Hp) :=
  nm (pI h o 6 (((31 : Int32) * (h.1 o 6)) + p0)) fun h1 => some ((), h1)
def F_X6_lose (o : Nat) (p0 : Int32) (h : Hp) : Option (Int32 × Hp) :=
  bnd (F_X6_isSheet p0 h) fun r2 h1 => if r2 = (0 : Int32) then (some ((-1 : Int32), h1)) else ((h1.2 o 0).bind fun q3 => ck (aRn shC 2 q3 p0) (gO shC (h1.2 q3 (p0).toNatClampNeg) 1 fun q4 => bnd (F_X1_empty q4 h1) fun r6 h5 => if r6 = (0 : Int32) then (some ((0 : Int32), h5)) else (some ((1 : Int32), h5))))
def F_X6_louds (o : Nat) (p0 : Int32) (h : Hp) : Option (Int32 × Hp) :=
  bnd (F_X6_isTalk o p0 h) fun r2 h1 => if r2 = (0 : Int32) then (some ((-1 : Int32), h1)) else (gO shC (h1.2 o 4) 0 fun q3 => (h1.2 q3 8).bind fun q4 => bnd (F_X6_fitting o q4 p0 (1 : Int32) (9 : Int32) h1) fun r6 h5 => some (r6, h5))
def F_X6_many (o : Nat) (p0 : Int32) (h : Hp) : Option (Int32 × Hp) :=
  if p0 = (0 : Int32) then (gO shC (h.2 o 4) 0 fun q1 => some ((h.1 q1 2), h)) else (if p0 = (1 : Int32) then (gO shC (h.2 o 4) 0 fun q2 => some ((h.1 q2 1), h)) else (if p0 = (2 : Int32) then (gO shC (h.2 o 4) 0 fun q3 => some ((h.1 q3 0), h)) else (if p0 = (3 : Int32) then (gO shC (h.2 o 4) 0 fun q4 => gO shC (h.2 q4 10) 3 fun q5 => some ((h.1 q5 3), h)) else (if p0 = (4 : Int32) then (gO shC (h.2 o 4) 0 fun q6 => gO shC (h.2 q6 11) 3 fun q7 => some ((h.1 q7 3), h)) else (some ((-2 : Int32), h))))))
def F_X6_plainTells (o : Nat) (p0 : Int32) (h : Hp) : Option (Int32 × Hp) :=
  bnd (F_X6_leave o (1 : Int32) h) fun _ h1 => some (p0, h1)
def F_X6_waxedTells (o : Nat) (p0 : Int32) (h : Hp) : Option (Int32 × Hp) :=
  bnd (F_X6_leave o (2 : Int32) h) fun _ h1 => bnd (F_X6_plainTells o p0 h1) fun r3 h2 => some ((r3 + (100 : Int32)), h2)
def F_X6_mitedTells (o : Nat) (p0 : Int32) (h : Hp) : Option (Int32 × Hp) :=
  bnd (F_X6_leave o (3 : Int32) h) fun _ h1 => bnd (F_X6_waxedTells o p0 h1) fun r3 h2 => bnd (F_X6_plainTells o p0 h2) fun r5 h4 => some ((r3 + r5), h4)
def F_X6_move (o : Nat) (p0 : Int32) (p1 : Int32) (p2 : Int32) (h : Hp) : Option (Int32 × Hp) :=
  bnd (F_X6_isCheese o p0 h) fun r2 h1 => if r2 = (0 : Int32) then (some ((-1 : Int32), h1)) else (if p2 < (0 : Int32) then (some ((-1 : Int32), h1)) else (gO shC (h1.2 o 4) 0 fun q3 => if p2 < (h1.1 q3 0) then (bnd (F_X6_isDay p1 h1) fun r5 h4 => if r5 = (0 : Int32) then (some ((-2 : Int32), h4)) else (gO shC (h4.2 o 4) 0 fun q6 => gO shC (h4.2 q6 10) 3 fun q7 => bnd (F_X3_add q7 p0 p1 p2 h4) fun r9 h8 => gO shC (h8.2 o 4) 0 fun q10 => bnd (F_X0_carry q10 h8) fun _ h11 => some (r9, h11))) else (some ((-1 : Int32), h1))))
def F_X6_odds (o : Nat) (p0 : Int32) (p1 : Int32) (p2 : Int32) (h : Hp) : Option (Int64 × Hp) :=
  bnd (F_X6_isCheese o p0 h) fun r2 h1 => if r2 = (0 : Int32) then (some ((-9223372036854775808 : Int64), h1)) else (bnd (F_X6_isWord p1 h1) fun r4 h3 => if r4 = (0 : Int32) then (some ((-9223372036854775808 : Int64), h3)) else (if p2 < (0 : Int32) then (some ((-9223372036854775808 : Int64), h3)) else (if p2 ≤ (1 : Int32) then (gO shC (h3.2 o 3) 5 fun q5 => gO shC (h3.2 o 4) 0 fun q6 => bnd (F_X5_weigh q5 q6 p0 p1 h3) fun _ h7 => if p2 = (0 : Int32) then (gO shC (h7.2 o 3) 5 fun q9 => some (((h7.1 q9 2)).toInt64, h7)) else (gO shC (h7.2 o 3) 5 fun q8 => some (((h7.1 q8 3)).toInt64, h7))) else (some ((-9223372036854775808 : Int64), h3)))))
def F_X6_ofCheese (o : Nat) (p0 : Int32) (p1 : Int32) (h : Hp) : Option (Int32 × Hp) :=
  bnd (F_X6_isCheese o p0 h) fun r2 h1 => if r2 = (0 : Int32) then (some ((-1 : Int32), h1)) else (if p1 = (0 : Int32) then (gO shC (h1.2 o 4) 0 fun q3 => (h1.2 q3 3).bind fun q4 => ck (aIn shC q4 p0) (some ((h1.1 q4 (p0).toNatClampNeg), h1))) else (if p1 = (1 : Int32) then (gO shC (h1.2 o 4) 0 fun q5 => (h1.2 q5 4).bind fun q6 => ck (aIn shC q6 p0) (some ((h1.1 q6 (p0).toNatClampNeg), h1))) else (if p1 = (2 : Int32) then (gO shC (h1.2 o 4) 0 fun q7 => (h1.2 q7 5).bind fun q8 => ck (aIn shC q8 p0) (some ((h1.1 q8 (p0).toNatClampNeg), h1))) else (if p1 = (3 : Int32) then (gO shC (h1.2 o 4) 0 fun q9 => (h1.2 q9 6).bind fun q10 => ck (aIn shC q10 p0) (some ((h1.1 q10 (p0).toNatClampNeg), h1))) else (some ((-2 : Int32), h1))))))
def F_X6_ofTalk (o : Nat) (p0 : Int32) (p1 : Int32) (h : Hp) : Option (Int32 × Hp) :=
  bnd (F_X6_isTalk o p0 h) fun r2 h1 => if r2 = (0 : Int32) then (some ((-1 : Int32), h1)) else (if p1 = (0 : Int32) then (gO shC (h1.2 o 4) 0 fun q3 => (h1.2 q3 7).bind fun q4 => ck (aIn shC q4 p0) (some ((h1.1 q4 (p0).toNatClampNeg), h1))) else (if p1 = (1 : Int32) then (gO shC (h1.2 o 4) 0 fun q5 => (h1.2 q5 8).bind fun q6 => ck (aIn shC q6 p0) (some ((h1.1 q6 (p0).toNatClampNeg), h1))) else (if p1 = (2 : Int32) then (gO shC (h1.2 o 4) 0 fun q7 => (h1.2 q7 9).bind fun q8 => ck (aIn shC q8 p0) (some ((h1.1 q8 (p0).toNatClampNeg), h1))) else (some ((-2 : Int32), h1)))))
def F_X6_put (o : Nat) (p0 : Int32) (p1 : Int32) (p2 : Int32) (h : Hp) : Option (Int32 × Hp) :=
  nm (pI h o 7 (0 : Int32)) fun h1 => bnd (F_X6_isSheet p0 h1) fun r3 h2 => if r3 = (0 : Int32) then (some ((-1 : Int32), h2)) else ((h2.2 o 0).bind fun q4 => ck (aRn shC 2 q4 p0) (gO shC (h2.2 q4 (p0).toNatClampNeg) 1 fun q5 => bnd (F_X1_hasNothing q5 h2) fun r7 h6 => if r7 = (0 : Int32) then (bnd (F_X1_hasCells q5 p1 (1 : Int32) h6) fun r9 h8 => if r9 = (0 : Int32) then (bnd (F_X6_faulty o (3 : Int32) h8) fun r15 h14 => some (r15, h14)) else ((h8.2 q5 0).bind fun q10 => bnd (F_X1_cutToLane q5 p2 h8) fun r12 h11 => ck (aIn shC q10 p1) (nm (pI h11 q10 (p1).toNatClampNeg r12) fun h13 => some ((1 : Int32), h13)))) else (bnd (F_X6_faulty o (1 : Int32) h6) fun r18 h17 => some (r18, h17))))
def F_X6_reading_J23 (q5 : Nat) (x6 : Int32) (x7 : Int32) (x8 : Int32) (h9 : Hp) : Option (Int32 × Hp) :=
  if x7 < (0 : Int32) then (some ((-2 : Int32), h9)) else (if x7 < (8 : Int32) then (gO shC (h9.2 q5 4) 0 fun q10 => gO shC (h9.2 q10 11) 3 fun q11 => bnd (F_X3_add q11 x6 x7 x8 h9) fun r13 h12 => some (r13, h12)) else (some ((-2 : Int32), h9)))
def F_X6_reading (o : Nat) (p0 : Int32) (p1 : Int32) (p2 : Int32) (h : Hp) : Option (Int32 × Hp) :=
  bnd (F_X6_isCheese o p0 h) fun r2 h1 => if r2 = (0 : Int32) then (some ((-1 : Int32), h1)) else (bnd (F_X6_isWord p2 h1) fun r4 h3 => if r4 = (0 : Int32) then (if p2 = (-9 : Int32) then (F_X6_reading_J23 o p0 p1 p2 h3) else (some ((-1 : Int32), h3))) else (F_X6_reading_J23 o p0 p1 p2 h3))
def F_X6_sheet (o : Nat) (p0 : Int32) (p1 : Int32) (p2 : Int32) (h : Hp) : Option (Int32 × Hp) :=
  nm (pI h o 7 (0 : Int32)) fun h1 => bnd (F_X6_isSheet p0 h1) fun r3 h2 => if r3 = (0 : Int32) then (some ((-1 : Int32), h2)) else (bnd (F_X6_isLane p1 h2) fun r5 h4 => if r5 = (0 : Int32) then (some ((-2 : Int32), h4)) else (if p2 ≤ (60 : Int32) then (if (0 : Int32) ≤ p2 then ((h4.2 o 0).bind fun q6 => ck (aRn shC 2 q6 p0) (gO shC (h4.2 q6 (p0).toNatClampNeg) 1 fun q7 => bnd (F_X1_begin q7 p1 p2 h4) fun _ h8 => some ((1 : Int32), h8))) else (bnd (F_X6_faulty o (4 : Int32) h4) fun r10 h9 => some (r10, h9))) else (some ((-2 : Int32), h4))))
def F_X6_shelve (o : Nat) (p0 : Int32) (h : Hp) : Option (Int32 × Hp) :=
  if (-1 : Int32) ≤ p0 then (bnd (F_X6_hasNoDairy o h) fun r2 h1 => if r2 = (0 : Int32) then (gO shC (h1.2 o 2) 2 fun q3 => gO shC (h1.2 o 4) 0 fun q4 => bnd (F_X2_find q3 q4 h1) fun _ h5 => if p0 = (-1 : Int32) then (gO shC (h5.2 o 2) 2 fun q11 => some ((h5.1 q11 1), h5)) else (bnd (F_X6_isCheese o p0 h5) fun r7 h6 => if r7 = (0 : Int32) then (some ((-9 : Int32), h6)) else (gO shC (h6.2 o 2) 2 fun q8 => (h6.2 q8 0).bind fun q9 => ck (aIn shC q9 p0) (some ((h6.1 q9 (p0).toNatClampNeg), h6))))) else (some ((-3 : Int32), h1))) else (some ((-1 : Int32), h))
def F_X6_spare (o : Nat) (p0 : Int32) (p1 : Int32) (p2 : Int32) (h : Hp) : Option (Int32 × Hp) :=
  if (-1 : Int32) ≤ p2 then (bnd (F_X6_isWordSet p0 h) fun r2 h1 => if r2 = (0 : Int32) then (some ((-2 : Int32), h1)) else (bnd (F_X6_isWordSet p1 h1) fun r4 h3 => if r4 = (0 : Int32) then (some ((-2 : Int32), h3)) else (bnd (F_X6_hasNoDairy o h3) fun r6 h5 => if r6 = (0 : Int32) then (gO shC (h5.2 o 1) 4 fun q7 => gO shC (h5.2 o 4) 0 fun q8 => bnd (F_X4_find q7 q8 p0 p1 h5) fun _ h9 => if p2 = (-1 : Int32) then (gO shC (h9.2 o 1) 4 fun q17 => some ((h9.1 q17 1), h9)) else (bnd (F_X6_isCheese o p2 h9) fun r11 h10 => if r11 = (0 : Int32) then (some ((-9 : Int32), h10)) else (gO shC (h10.2 o 1) 4 fun q12 => if (h10.1 q12 1) = (-9 : Int32) then (some ((-9 : Int32), h10)) else (gO shC (h10.2 o 1) 4 fun q13 => (h10.2 q13 0).bind fun q14 => ck (aIn shC q14 p2) (some ((h10.1 q14 (p2).toNatClampNeg), h10)))))) else (some ((-3 : Int32), h5))))) else (some ((-1 : Int32), h))
def F_X6_tap (o : Nat) (p0 : Int32) (h : Hp) : Option (Int32 × Hp) :=
  bnd (F_X6_isCheese o p0 h) fun r2 h1 => if r2 = (0 : Int32) then (some ((-1 : Int32), h1)) else (gO shC (h1.2 o 4) 0 fun q3 => (h1.2 q3 3).bind fun q4 => ck (aIn shC q4 p0) (if (h1.1 q4 (p0).toNatClampNeg) = (2 : Int32) then (bnd (F_X6_leave o (5 : Int32) h1) fun _ h6 => some ((70 : Int32), h6)) else (bnd (F_X6_leave o (4 : Int32) h1) fun _ h5 => some (p0, h5))))
def F_X6_tell (o : Nat) (p0 : Int32) (h : Hp) : Option (Int32 × Hp) :=
  bnd (F_X6_isCheese o p0 h) fun r2 h1 => if r2 = (0 : Int32) then (some ((-1 : Int32), h1)) else (gO shC (h1.2 o 4) 0 fun q3 => (h1.2 q3 5).bind fun q4 => ck (aIn shC q4 p0) (nm (h1.1 q4 (p0).toNatClampNeg) fun x5 => gO shC (h1.2 o 4) 0 fun q6 => (h1.2 q6 3).bind fun q7 => ck (aIn shC q7 p0) (if (h1.1 q7 (p0).toNatClampNeg) = (1 : Int32) then (bnd (F_X6_waxedTells o x5 h1) fun r9 h8 => some (r9, h8)) else (if (h1.1 q7 (p0).toNatClampNeg) = (2 : Int32) then (bnd (F_X6_mitedTells o x5 h1) fun r11 h10 => some (r11, h10)) else (bnd (F_X6_plainTells o x5 h1) fun r13 h12 => some (r13, h12))))))
def F_X6_trace (o : Nat) (h : Hp) : Option (Int32 × Hp) :=
  some ((h.1 o 6), h)
def F_X6_undo (o : Nat) (p0 : Int32) (h : Hp) : Option (Int32 × Hp) :=
  gO shC (h.2 o 4) 0 fun q1 => gO shC (h.2 q1 10) 3 fun q2 => bnd (F_X3_takeBack q2 p0 h) fun r4 h3 => gO shC (h3.2 o 4) 0 fun q5 => bnd (F_X0_carry q5 h3) fun _ h6 => some (r4, h6)
def F_X6_wall_J26 (q5 : Nat) (x6 : Int32) (x7 : Int32) (h8 : Hp) : Option (Int32 × Hp) :=
  gO shC (h8.2 q5 4) 0 fun q9 => (h8.2 q9 6).bind fun q10 => ck (aIn shC q10 x6) (nm (h8.1 q10 (x6).toNatClampNeg) fun x11 => gO shC (h8.2 q5 4) 0 fun q12 => (h8.2 q12 6).bind fun q13 => ck (aIn shC q13 x6) (nm (pI h8 q13 (x6).toNatClampNeg x7) fun h14 => some (x11, h14)))
def F_X6_wall (o : Nat) (p0 : Int32) (p1 : Int32) (h : Hp) : Option (Int32 × Hp) :=
  bnd (F_X6_isCheese o p0 h) fun r2 h1 => if r2 = (0 : Int32) then (some ((-1 : Int32), h1)) else (bnd (F_X6_isDay p1 h1) fun r4 h3 => if r4 = (0 : Int32) then (if p1 = (-9 : Int32) then (F_X6_wall_J26 o p0 p1 h3) else (some ((-2 : Int32), h3))) else (F_X6_wall_J26 o p0 p1 h3))
def F_X6_where (o : Nat) (p0 : Int32) (p1 : Int32) (h : Hp) : Option (Int32 × Hp) :=
  bnd (F_X6_isCheese o p0 h) fun r2 h1 => if r2 = (0 : Int32) then (some ((-1 : Int32), h1)) else (bnd (F_X6_isDay p1 h1) fun r4 h3 => if r4 = (0 : Int32) then (some ((-2 : Int32), h3)) else (gO shC (h3.2 o 4) 0 fun q5 => bnd (F_X0_cellarOn q5 p0 p1 h3) fun r7 h6 => some (r7, h6)))
def F_X6_words (o : Nat) (p0 : Int32) (h : Hp) : Option (Int32 × Hp) :=
  bnd (F_X6_isTalk o p0 h) fun r2 h1 => if r2 = (0 : Int32) then (some ((-1 : Int32), h1)) else (gO shC (h1.2 o 4) 0 fun q3 => (h1.2 q3 9).bind fun q4 => bnd (F_X6_fitting o q4 p0 (0 : Int32) (7 : Int32) h1) fun r6 h5 => some (r6, h5))
def F_X7_against_J23 (q2 : Nat) (x3 : Int32) (x4 : Int32) (x5 : Int32) (h6 : Hp) : Option (Int32 × Hp) :=
  (h6.2 q2 2).bind fun q7 => ck (aIn shM q7 x3) (if (h6.1 q7 (x3).toNatClampNeg) = (-9 : Int32) then (some ((1 : Int32), h6)) else (if (0 : Int32) ≤ x5 then (if x4 < (0 : Int32) then (some ((3 : Int32), h6)) else ((h6.2 q2 3).bind fun q8 => ck (aIn shM q8 x3) (if (h6.1 q8 (x3).toNatClampNeg) < x4 then (some ((3 : Int32), h6)) else ((h6.2 q2 3).bind fun q9 => ck (aIn shM q9 x3) (if x5 ≤ ((h6.1 q9 (x3).toNatClampNeg) - x4) then (some ((0 : Int32), h6)) else (some ((3 : Int32), h6))))))) else (some ((4 : Int32), h6))))
def F_X7_against (o : Nat) (p0 : Int32) (p1 : Int32) (p2 : Int32) (p3 : Int32) (h : Hp) : Option (Int32 × Hp) :=
  (h.2 o 2).bind fun q1 => ck (aIn shM q1 p0) (if (h.1 q1 (p0).toNatClampNeg) = (-9 : Int32) then (F_X7_against_J23 o p0 p2 p3 h) else ((h.2 o 2).bind fun q15 => ck (aIn shM q15 p0) (if (h.1 q15 (p0).toNatClampNeg) = p1 then (F_X7_against_J23 o p0 p2 p3 h) else (some ((2 : Int32), h)))))
def F_X7_isCheese (o : Nat) (p0 : Int32) (h : Hp) : Option (Int32 × Hp) :=
  if p0 < (0 : Int32) then (some ((0 : Int32), h)) else (if (h.1 o 6) ≤ p0 then (some ((0 : Int32), h)) else (some ((1 : Int32), h)))
def F_X7_isTurned (o : Nat) (p0 : Int32) (p1 : Int32) (h : Hp) : Option (Int32 × Hp) :=
  (h.2 o 11).bind fun q1 => ck (aIn shM q1 p0) (if (h.1 q1 (p0).toNatClampNeg) = (-9 : Int32) then (some ((0 : Int32), h)) else ((h.2 o 11).bind fun q2 => ck (aIn shM q2 p0) (if p1 < (h.1 q2 (p0).toNatClampNeg) then (some ((0 : Int32), h)) else (some ((1 : Int32), h)))))
def F_X7_whereOf_L14 (q3 : Nat) (x4 : Int32) (x5 : Int32) : Nat → Int32 → Int32 → Int32 → Hp → Option (Int32 × Hp)
  | 0, _, _, _, _ => none
  | N + 1, x6, x7, x8, h9 =>
  if (h9.1 q3 15) ≤ x8 then (some (x6, h9)) else ((h9.2 q3 16).bind fun q10 => ck (aIn shM q10 x8) (if (h9.1 q10 (x8).toNatClampNeg) = x4 then ((h9.2 q3 17).bind fun q12 => ck (aIn shM q12 x8) (if x5 < (h9.1 q12 (x8).toNatClampNeg) then (nm (x8 + (1 : Int32)) fun x13 => F_X7_whereOf_L14 q3 x4 x5 N x6 x7 x13 h9) else ((h9.2 q3 17).bind fun q14 => ck (aIn shM q14 x8) (if (h9.1 q14 (x8).toNatClampNeg) < x7 then (nm (x8 + (1 : Int32)) fun x15 => F_X7_whereOf_L14 q3 x4 x5 N x6 x7 x15 h9) else ((h9.2 q3 17).bind fun q16 => ck (aIn shM q16 x8) (nm (h9.1 q16 (x8).toNatClampNeg) fun x17 => (h9.2 q3 18).bind fun q18 => ck (aIn shM q18 x8) (nm (h9.1 q18 (x8).toNatClampNeg) fun x19 => nm (x8 + (1 : Int32)) fun x20 => F_X7_whereOf_L14 q3 x4 x5 N x19 x17 x20 h9))))))) else (nm (x8 + (1 : Int32)) fun x11 => F_X7_whereOf_L14 q3 x4 x5 N x6 x7 x11 h9)))
def F_X7_whereOf (o : Nat) (p0 : Int32) (p1 : Int32) (h : Hp) : Option (Int32 × Hp) :=
  (h.2 o 9).bind fun q1 => ck (aIn shM q1 p0) (nm (h.1 q1 (p0).toNatClampNeg) fun x2 => F_X7_whereOf_L14 o p0 p1 FU x2 (-9 : Int32) (0 : Int32) h)
def F_X7_comes_J36 (x6 : Int32) (y7 : Int32) (h8 : Hp) : Option (Int32 × Hp) :=
  if (0 : Int32) ≤ x6 then (some ((y7 - ((2 : Int32) * x6)), h8)) else (some ((y7 - ((2 : Int32) * (-x6))), h8))
def F_X7_comes (o : Nat) (p0 : Int32) (p1 : Int32) (h : Hp) : Option (Int32 × Hp) :=
  bnd (F_X7_whereOf o p0 p1 h) fun r2 h1 => (h1.2 o 12).bind fun q3 => ck (aIn shM q3 p1) (nm (r2 - (h1.1 q3 (p1).toNatClampNeg)) fun x4 => if (((h1.1 o 19) >>> (p1 &&& 31)) &&& (1 : Int32)) = (1 : Int32) then (F_X7_comes_J36 x4 (1 : Int32) h1) else ((h1.2 o 13).bind fun q5 => ck (aIn shM q5 p1) (F_X7_comes_J36 x4 (h1.1 q5 (p1).toNatClampNeg) h1)))
def F_X7_heardBy_J91 (k47 : Int32 → Int32 → Int32 → Hp → Option (Int32 × Hp)) (q11 : Nat) (x12 : Int32) (x13 : Int32) (x27 : Int32) (x28 : Int32) (y29 : Int32) (y30 : Int32) (h31 : Hp) : Option (Int32 × Hp) :=
  nm (y30 ||| y29) fun x32 => (h31.2 q11 8).bind fun q33 => ck (aIn shM q33 x12) (if (h31.1 q33 (x12).toNatClampNeg) = (2 : Int32) then (if x27 = (0 : Int32) then (nm (x28 + (1 : Int32)) fun x36 => k47 x32 (1 : Int32) x36 h31) else (nm (x28 + (1 : Int32)) fun x35 => k47 x32 (0 : Int32) x35 h31)) else (nm (x28 + (1 : Int32)) fun x34 => k47 x32 (0 : Int32) x34 h31))
def F_X7_heardBy_L47 (q11 : Nat) (x12 : Int32) (x13 : Int32) : Nat → Int32 → Int32 → Int32 → Hp → Option (Int32 × Hp)
  | 0, _, _, _, _ => none
  | N + 1, x14, x15, x16, h17 =>
  if (h17.1 q11 7) ≤ x16 then (some (x14, h17)) else (bnd (F_X7_isTurned q11 x12 x16 h17) fun r19 h18 => if r19 = (0 : Int32) then (bnd (F_X7_comes q11 x12 x16 h18) fun r22 h21 => if r22 < x13 then (nm (x16 + (1 : Int32)) fun x23 => F_X7_heardBy_L47 q11 x12 x13 N x14 x15 x23 h21) else (if x15 = (0 : Int32) then (F_X7_heardBy_J91 (F_X7_heardBy_L47 q11 x12 x13 N) q11 x12 x13 x15 x16 ((1 : Int32) <<< (x16 &&& 31)) x14 h21) else (F_X7_heardBy_J91 (F_X7_heardBy_L47 q11 x12 x13 N) q11 x12 x13 x15 x16 (0 : Int32) x14 h21))) else (nm (x16 + (1 : Int32)) fun x20 => F_X7_heardBy_L47 q11 x12 x13 N x14 x15 x20 h18))
def F_X7_heardBy_J38 (q7 : Nat) (x8 : Int32) (y9 : Int32) (h10 : Hp) : Option (Int32 × Hp) :=
  F_X7_heardBy_L47 q7 x8 y9 FU (0 : Int32) (0 : Int32) (0 : Int32) h10
def F_X7_heardBy_J27 (q3 : Nat) (x4 : Int32) (y5 : Int32) (h6 : Hp) : Option (Int32 × Hp) :=
  if (1 : Int32) ≤ y5 then (F_X7_heardBy_J38 q3 x4 y5 h6) else (F_X7_heardBy_J38 q3 x4 (1 : Int32) h6)
def F_X7_heardBy (o : Nat) (p0 : Int32) (h : Hp) : Option (Int32 × Hp) :=
  (h.2 o 8).bind fun q1 => ck (aIn shM q1 p0) (if (h.1 q1 (p0).toNatClampNeg) = (1 : Int32) then ((h.2 o 10).bind fun q44 => ck (aIn shM q44 p0) (F_X7_heardBy_J27 o p0 ((h.1 q44 (p0).toNatClampNeg) + (1 : Int32)) h)) else ((h.2 o 10).bind fun q2 => ck (aIn shM q2 p0) (F_X7_heardBy_J27 o p0 (h.1 q2 (p0).toNatClampNeg) h)))
def F_X7_size_L4 : Nat → Int32 → Int32 → Hp → Option (Int32 × Hp)
  | 0, _, _, _ => none
  | N + 1, x1, x2, h3 =>
  if x2 ≤ (0 : Int32) then (some (x1, h3)) else (nm (x1 + (x2 &&& (1 : Int32))) fun x4 => nm (x2 >>> ((1 : Int32) &&& 31)) fun x5 => F_X7_size_L4 N x4 x5 h3)
def F_X7_size (p0 : Int32) (h : Hp) : Option (Int32 × Hp) :=
  F_X7_size_L4 FU (0 : Int32) p0 h
def F_X7_layerOf_L10 (x2 : Int32) : Nat → Int32 → Int32 → Hp → Option (Int32 × Hp)
  | 0, _, _, _ => none
  | N + 1, x3, x4, h5 =>
  if x4 < (0 : Int32) then (some ((-9 : Int32), h5)) else (if ((x2 >>> (x4 &&& 31)) &&& (1 : Int32)) = (1 : Int32) then (if x3 = (0 : Int32) then (some (x4, h5)) else (nm (x3 + (-1 : Int32)) fun x7 => nm (x4 + (-1 : Int32)) fun x8 => F_X7_layerOf_L10 x2 N x7 x8 h5)) else (nm (x4 + (-1 : Int32)) fun x6 => F_X7_layerOf_L10 x2 N x3 x6 h5))
def F_X7_layerOf (o : Nat) (p0 : Int32) (p1 : Int32) (h : Hp) : Option (Int32 × Hp) :=
  nm ((h.1 o 7) - (1 : Int32)) fun x1 => F_X7_layerOf_L10 p0 FU p1 x1 h
def F_X7_wordsOf_L5 (q1 : Nat) (x2 : Int32) (x3 : Int32) : Nat → Int32 → Int32 → Hp → Option (Int32 × Hp)
  | 0, _, _, _ => none
  | N + 1, x4, x5, h6 =>
  if x3 ≤ x5 then (some (x4, h6)) else (bnd (F_X7_size x2 h6) fun r8 h7 => if r8 ≤ x5 then (some (x4, h7)) else ((h7.2 q1 14).bind fun q9 => bnd (F_X7_layerOf q1 x2 x5 h7) fun r11 h10 => ck (aIn shM q9 r11) (nm (x4 ||| ((1 : Int32) <<< ((h10.1 q9 (r11).toNatClampNeg) &&& 31))) fun x12 => nm (x5 + (1 : Int32)) fun x13 => F_X7_wordsOf_L5 q1 x2 x3 N x12 x13 h10)))
def F_X7_wordsOf (o : Nat) (p0 : Int32) (p1 : Int32) (h : Hp) : Option (Int32 × Hp) :=
  F_X7_wordsOf_L5 o p0 p1 FU (0 : Int32) (0 : Int32) h
def F_X7_alone_L24 (q7 : Nat) (x8 : Int32) : Nat → Int32 → Int32 → Hp → Option (Int32 × Hp)
  | 0, _, _, _ => none
  | N + 1, x9, x10, h11 =>
  if (h11.1 q7 6) ≤ x10 then (some (x9, h11)) else (if x10 = x8 then (nm (x9 &&& (255 : Int32)) fun x18 => nm (x10 + (1 : Int32)) fun x19 => F_X7_alone_L24 q7 x8 N x18 x19 h11) else (bnd (F_X7_heardBy q7 x10 h11) fun r13 h12 => bnd (F_X7_wordsOf q7 r13 (8 : Int32) h12) fun r15 h14 => nm (x9 &&& (r15 ^^^ (-1 : Int32))) fun x16 => nm (x10 + (1 : Int32)) fun x17 => F_X7_alone_L24 q7 x8 N x16 x17 h14))
def F_X7_alone (o : Nat) (p0 : Int32) (h : Hp) : Option (Int32 × Hp) :=
  bnd (F_X7_isCheese o p0 h) fun r2 h1 => if r2 = (0 : Int32) then (some ((-1 : Int32), h1)) else (bnd (F_X7_heardBy o p0 h1) fun r4 h3 => bnd (F_X7_wordsOf o r4 (8 : Int32) h3) fun r6 h5 => F_X7_alone_L24 o p0 FU r6 (0 : Int32) h5)
def F_X7_areSo_J48 (k2 : Int32 → Hp → Option (Int32 × Hp)) (q1 : Nat) (x12 : Int32) (y13 : Int32) (h14 : Hp) : Option (Int32 × Hp) :=
  (h14.2 q1 32).bind fun q15 => ck (aIn shM q15 x12) (if y13 = (h14.1 q15 (x12).toNatClampNeg) then (nm (x12 + (1 : Int32)) fun x16 => k2 x16 h14) else (some ((0 : Int32), h14)))
def F_X7_areSo_L2 (q1 : Nat) : Nat → Int32 → Hp → Option (Int32 × Hp)
  | 0, _, _ => none
  | N + 1, x2, h3 =>
  if (h3.1 q1 29) ≤ x2 then (some ((1 : Int32), h3)) else ((h3.2 q1 30).bind fun q4 => ck (aIn shM q4 x2) (bnd (F_X7_heardBy q1 (h3.1 q4 (x2).toNatClampNeg) h3) fun r6 h5 => (h5.2 q1 31).bind fun q7 => ck (aIn shM q7 x2) (bnd (F_X7_layerOf q1 r6 (h5.1 q7 (x2).toNatClampNeg) h5) fun r9 h8 => if r9 = (-9 : Int32) then (F_X7_areSo_J48 (F_X7_areSo_L2 q1 N) q1 x2 (-9 : Int32) h8) else ((h8.2 q1 14).bind fun q10 => ck (aIn shM q10 r9) (F_X7_areSo_J48 (F_X7_areSo_L2 q1 N) q1 x2 (h8.1 q10 (r9).toNatClampNeg) h8)))))
def F_X7_areSo (o : Nat) (h : Hp) : Option (Int32 × Hp) :=
  F_X7_areSo_L2 o FU (0 : Int32) h
def F_X7_within (p0 : Int32) (p1 : Int32) (p2 : Int32) (h : Hp) : Option (Int32 × Hp) :=
  if p0 < p1 then (some ((0 : Int32), h)) else (if p2 < p0 then (some ((0 : Int32), h)) else (some ((1 : Int32), h)))
def F_X7_fails (o : Nat) (p0 : Int32) (h : Hp) : Option (Int32 × Hp) :=
  nm (pI h o 0 p0) fun h1 => some (((-10 : Int32) - p0), h1)
def F_X7_as (o : Nat) (p0 : Int32) (p1 : Int32) (h : Hp) : Option (Int32 × Hp) :=
  nm (pI h o 0 (0 : Int32)) fun h1 => bnd (F_X7_isCheese o p0 h1) fun r3 h2 => if r3 = (0 : Int32) then (some ((-1 : Int32), h2)) else (bnd (F_X7_within p1 (0 : Int32) (2 : Int32) h2) fun r5 h4 => if r5 = (0 : Int32) then (some ((-2 : Int32), h4)) else ((h4.2 o 8).bind fun q6 => ck (aIn shM q6 p0) (if (h4.1 q6 (p0).toNatClampNeg) < p1 then (bnd (F_X7_fails o (2 : Int32) h4) fun r8 h7 => some (r8, h7)) else (some ((1 : Int32), h4)))))
def F_X7_back (o : Nat) (p0 : Int32) (h : Hp) : Option (Int32 × Hp) :=
  bnd (F_X7_within p0 (0 : Int32) (h.1 o 29) h) fun r2 h1 => if r2 = (0 : Int32) then (some ((-2 : Int32), h1)) else (nm (pI h1 o 29 ((h1.1 o 29) - p0)) fun h3 => some ((h3.1 o 29), h3))
def F_X7_begins (o : Nat) (p0 : Int32) (h : Hp) : Option (Unit × Hp) :=
  nm (pI h o 1 (((31 : Int32) * (h.1 o 1)) + p0)) fun h1 => some ((), h1)
def F_X7_isSheet (p0 : Int32) (h : Hp) : Option (Int32 × Hp) :=
  bnd (F_X7_within p0 (0 : Int32) (3 : Int32) h) fun r2 h1 => ck (isB r2) (some (r2, h1))
def F_X7_isSort (p0 : Int32) (h : Hp) : Option (Int32 × Hp) :=
  bnd (F_X7_within p0 (0 : Int32) (2 : Int32) h) fun r2 h1 => ck (isB r2) (some (r2, h1))
def F_X7_lost (o : Nat) (p0 : Int32) (h : Hp) : Option (Int64 × Hp) :=
  nm (pI h o 0 p0) fun h1 => some ((-9223372036854775808 : Int64), h1)
def F_X7_cell_J50 (q7 : Nat) (x8 : Int32) (x9 : Int32) (h10 : Hp) : Option (Int64 × Hp) :=
  (h10.2 q7 2).bind fun q11 => ck (aIn shM q11 x8) (if (h10.1 q11 (x8).toNatClampNeg) = (-9 : Int32) then (bnd (F_X7_lost q7 (1 : Int32) h10) fun r20 h19 => some (r20, h19)) else ((h10.2 q7 3).bind fun q12 => ck (aIn shM q12 x8) (bnd (F_X7_within x9 (0 : Int32) ((h10.1 q12 (x8).toNatClampNeg) - (1 : Int32)) h10) fun r14 h13 => if r14 = (0 : Int32) then (bnd (F_X7_lost q7 (3 : Int32) h13) fun r17 h16 => some (r17, h16)) else ((h13.2 q7 4).bind fun q15 => ck (aIn shM q15 (((60 : Int32) * x8) + x9)) (some (((h13.1 q15 ((((60 : Int32) * x8) + x9)).toNatClampNeg)).toInt64, h13))))))
def F_X7_cell (o : Nat) (p0 : Int32) (p1 : Int32) (p2 : Int32) (h : Hp) : Option (Int64 × Hp) :=
  nm (pI h o 0 (0 : Int32)) fun h1 => bnd (F_X7_isSheet p0 h1) fun r3 h2 => if r3 = (0 : Int32) then (some ((-9223372036854775808 : Int64), h2)) else (bnd (F_X7_isSort p2 h2) fun r5 h4 => if r5 = (0 : Int32) then (some ((-9223372036854775808 : Int64), h4)) else ((h4.2 o 2).bind fun q6 => ck (aIn shM q6 p0) (if (h4.1 q6 (p0).toNatClampNeg) = (-9 : Int32) then (F_X7_cell_J50 o p0 p1 h4) else ((h4.2 o 2).bind fun q22 => ck (aIn shM q22 p0) (if (h4.1 q22 (p0).toNatClampNeg) = p2 then (F_X7_cell_J50 o p0 p1 h4) else (bnd (F_X7_lost o (2 : Int32) h4) fun r24 h23 => some (r24, h23)))))))
def F_X7_common_L16 (q1 : Nat) : Nat → Int32 → Int32 → Hp → Option (Int32 × Hp)
  | 0, _, _, _ => none
  | N + 1, x2, x3, h4 =>
  if (h4.1 q1 6) ≤ x3 then (some (x2, h4)) else (bnd (F_X7_heardBy q1 x3 h4) fun r6 h5 => bnd (F_X7_wordsOf q1 r6 (8 : Int32) h5) fun r8 h7 => nm (x2 &&& r8) fun x9 => nm (x3 + (1 : Int32)) fun x10 => F_X7_common_L16 q1 N x9 x10 h7)
def F_X7_common (o : Nat) (h : Hp) : Option (Int32 × Hp) :=
  if (h.1 o 7) = (0 : Int32) then (some ((-3 : Int32), h)) else (F_X7_common_L16 o FU (255 : Int32) (0 : Int32) h)
def F_X7_copy_J43 (q7 : Nat) (h8 : Hp) : Option (Int32 × Hp) :=
  bnd (F_X7_fails q7 (1 : Int32) h8) fun r10 h9 => some (r10, h9)
def F_X7_copy_J144 (q29 : Nat) (h30 : Hp) : Option (Int32 × Hp) :=
  bnd (F_X7_fails q29 (3 : Int32) h30) fun r32 h31 => some (r32, h31)
def F_X7_copy_J190 (k166 : Int32 → Hp → Option (Int32 × Hp)) (q43 : Nat) (x44 : Int32) (x45 : Int32) (x46 : Int32) (x47 : Int32) (x48 : Int32) (x49 : Int32) (x59 : Int32) (y60 : Int32) (h61 : Hp) : Option (Int32 × Hp) :=
  (h61.2 q43 4).bind fun q62 => (h61.2 q43 4).bind fun q63 => ck (aIn shM q63 ((((60 : Int32) * x44) + x45) + y60)) (ck (aIn shM q62 ((((60 : Int32) * x46) + x47) + y60)) (nm (pI h61 q62 (((((60 : Int32) * x46) + x47) + y60)).toNatClampNeg (h61.1 q63 (((((60 : Int32) * x44) + x45) + y60)).toNatClampNeg)) fun h64 => nm (x59 + (1 : Int32)) fun x65 => k166 x65 h64))
def F_X7_copy_L166 (q43 : Nat) (x44 : Int32) (x45 : Int32) (x46 : Int32) (x47 : Int32) (x48 : Int32) (x49 : Int32) : Nat → Int32 → Hp → Option (Int32 × Hp)
  | 0, _, _ => none
  | N + 1, x50, h51 =>
  if x48 ≤ x50 then (some (x48, h51)) else (if x49 = (0 : Int32) then (F_X7_copy_J190 (F_X7_copy_L166 q43 x44 x45 x46 x47 x48 x49 N) q43 x44 x45 x46 x47 x48 x49 x50 x50 h51) else (F_X7_copy_J190 (F_X7_copy_L166 q43 x44 x45 x46 x47 x48 x49 N) q43 x44 x45 x46 x47 x48 x49 x50 ((x48 - (1 : Int32)) - x50) h51))
def F_X7_copy_J161 (q35 : Nat) (x36 : Int32) (x37 : Int32) (x38 : Int32) (x39 : Int32) (x40 : Int32) (y41 : Int32) (h42 : Hp) : Option (Int32 × Hp) :=
  F_X7_copy_L166 q35 x36 x37 x38 x39 x40 y41 FU (0 : Int32) h42
def F_X7_copy_J110 (q21 : Nat) (x22 : Int32) (x23 : Int32) (x24 : Int32) (x25 : Int32) (x26 : Int32) (y27 : Int32) (h28 : Hp) : Option (Int32 × Hp) :=
  if y27 = (0 : Int32) then (F_X7_copy_J144 q21 h28) else ((h28.2 q21 3).bind fun q33 => ck (aIn shM q33 x22) (if ((h28.1 q33 (x22).toNatClampNeg) - x23) < x26 then (F_X7_copy_J144 q21 h28) else ((h28.2 q21 3).bind fun q34 => ck (aIn shM q34 x24) (if x26 ≤ ((h28.1 q34 (x24).toNatClampNeg) - x25) then (if x25 ≤ x23 then (F_X7_copy_J161 q21 x22 x23 x24 x25 x26 (0 : Int32) h28) else (F_X7_copy_J161 q21 x22 x23 x24 x25 x26 (1 : Int32) h28)) else (F_X7_copy_J144 q21 h28)))))
def F_X7_copy_J109 (q14 : Nat) (x15 : Int32) (x16 : Int32) (x17 : Int32) (x18 : Int32) (x19 : Int32) (h20 : Hp) : Option (Int32 × Hp) :=
  F_X7_copy_J110 q14 x15 x16 x17 x18 x19 (0 : Int32) h20
def F_X7_copy (o : Nat) (p0 : Int32) (p1 : Int32) (p2 : Int32) (p3 : Int32) (p4 : Int32) (h : Hp) : Option (Int32 × Hp) :=
  nm (pI h o 0 (0 : Int32)) fun h1 => bnd (F_X7_isSheet p0 h1) fun r3 h2 => if r3 = (0 : Int32) then (some ((-1 : Int32), h2)) else (bnd (F_X7_isSheet p2 h2) fun r5 h4 => if r5 = (0 : Int32) then (some ((-1 : Int32), h4)) else ((h4.2 o 2).bind fun q6 => ck (aIn shM q6 p0) (if (h4.1 q6 (p0).toNatClampNeg) = (-9 : Int32) then (F_X7_copy_J43 o h4) else ((h4.2 o 2).bind fun q11 => ck (aIn shM q11 p2) (if (h4.1 q11 (p2).toNatClampNeg) = (-9 : Int32) then (F_X7_copy_J43 o h4) else ((h4.2 o 2).bind fun q12 => ck (aIn shM q12 p0) ((h4.2 o 2).bind fun q13 => ck (aIn shM q13 p2) (if (h4.1 q12 (p0).toNatClampNeg) = (h4.1 q13 (p2).toNatClampNeg) then (if p1 < (0 : Int32) then (F_X7_copy_J109 o p0 p1 p2 p3 p4 h4) else (if p3 < (0 : Int32) then (F_X7_copy_J109 o p0 p1 p2 p3 p4 h4) else (if p4 < (0 : Int32) then (F_X7_copy_J109 o p0 p1 p2 p3 p4 h4) else ((h4.2 o 3).bind fun q72 => ck (aIn shM q72 p0) (if (h4.1 q72 (p0).toNatClampNeg) < p1 then (F_X7_copy_J109 o p0 p1 p2 p3 p4 h4) else ((h4.2 o 3).bind fun q73 => ck (aIn shM q73 p2) (if (h4.1 q73 (p2).toNatClampNeg) < p3 then (F_X7_copy_J109 o p0 p1 p2 p3 p4 h4) else (F_X7_copy_J110 o p0 p1 p2 p3 p4 (1 : Int32) h4)))))))) else (bnd (F_X7_fails o (2 : Int32) h4) fun r80 h79 => some (r80, h79))))))))))
def F_X7_cuts_L91 (k151 : Hp → Option (Int32 × Hp)) (q13 : Nat) (x14 : Int32) (x15 : Int32) (x16 : Int32) : Nat → Int32 → Hp → Option (Int32 × Hp)
  | 0, _, _ => none
  | N + 1, x17, h18 =>
  if x14 ≤ x17 then (k151 h18) else ((h18.2 q13 4).bind fun q19 => ck (aIn shM q19 (x16 + ((2 : Int32) * x17))) (bnd (F_X7_isCheese q13 (h18.1 q19 ((x16 + ((2 : Int32) * x17))).toNatClampNeg) h18) fun r21 h20 => if r21 = (0 : Int32) then (some ((-1 : Int32), h20)) else ((h20.2 q13 4).bind fun q22 => ck (aIn shM q22 ((x16 + ((2 : Int32) * x17)) + (1 : Int32))) (bnd (F_X7_within (h20.1 q22 (((x16 + ((2 : Int32) * x17)) + (1 : Int32))).toNatClampNeg) (0 : Int32) (8 : Int32) h20) fun r24 h23 => if r24 = (0 : Int32) then (some ((-2 : Int32), h23)) else (nm (x17 + (1 : Int32)) fun x25 => F_X7_cuts_L91 k151 q13 x14 x15 x16 N x25 h23)))))
def F_X7_cuts_L161 (k240 : Int32 → Int32 → Hp → Option (Int32 × Hp)) (q30 : Nat) (x31 : Int32) (x32 : Int32) (x33 : Int32) : Nat → Int32 → Int32 → Int32 → Hp → Option (Int32 × Hp)
  | 0, _, _, _, _ => none
  | N + 1, x34, x35, x36, h37 =>
  if x31 ≤ x36 then (k240 x34 x35 h37) else ((h37.2 q30 4).bind fun q38 => ck (aIn shM q38 (x33 + ((2 : Int32) * x36))) (bnd (F_X7_heardBy q30 (h37.1 q38 ((x33 + ((2 : Int32) * x36))).toNatClampNeg) h37) fun r40 h39 => (h39.2 q30 4).bind fun q41 => ck (aIn shM q41 ((x33 + ((2 : Int32) * x36)) + (1 : Int32))) (bnd (F_X7_wordsOf q30 r40 (h39.1 q41 (((x33 + ((2 : Int32) * x36)) + (1 : Int32))).toNatClampNeg) h39) fun r43 h42 => nm (x34 ||| r43) fun x44 => if x35 = (-9 : Int32) then (if x44 = x34 then (nm (x36 + (1 : Int32)) fun x47 => F_X7_cuts_L161 k240 q30 x31 x32 x33 N x44 x36 x47 h42) else (nm (x36 + (1 : Int32)) fun x46 => F_X7_cuts_L161 k240 q30 x31 x32 x33 N x44 x35 x46 h42)) else (nm (x36 + (1 : Int32)) fun x45 => F_X7_cuts_L161 k240 q30 x31 x32 x33 N x44 x35 x45 h42))))
def F_X7_cuts (o : Nat) (p0 : Int32) (p1 : Int32) (p2 : Int32) (p3 : Int32) (p4 : Int32) (h : Hp) : Option (Int32 × Hp) :=
  nm (pI h o 0 (0 : Int32)) fun h1 => bnd (F_X7_isSheet p0 h1) fun r3 h2 => if r3 = (0 : Int32) then (some ((-1 : Int32), h2)) else (bnd (F_X7_isSort p1 h2) fun r5 h4 => if r5 = (0 : Int32) then (some ((-2 : Int32), h4)) else (bnd (F_X7_within p3 (0 : Int32) (20 : Int32) h4) fun r7 h6 => if r7 = (0 : Int32) then (some ((-2 : Int32), h6)) else (bnd (F_X7_within p4 (0 : Int32) (1 : Int32) h6) fun r9 h8 => if r9 = (0 : Int32) then (some ((-2 : Int32), h8)) else (bnd (F_X7_against o p0 p1 p2 ((2 : Int32) * p3) h8) fun r11 h10 => if r11 = (0 : Int32) then (if (h10.1 o 7) = (0 : Int32) then (some ((-3 : Int32), h10)) else (nm (((60 : Int32) * p0) + p2) fun x12 => F_X7_cuts_L91 (fun h29 => F_X7_cuts_L161 (fun w51 w52 h53 => if p4 = (0 : Int32) then (some (w51, h53)) else (some (w52, h53))) o p3 p4 x12 FU (0 : Int32) (-9 : Int32) (0 : Int32) h29) o p3 p4 x12 FU (0 : Int32) h10)) else (bnd (F_X7_fails o r11 h10) fun r57 h56 => some (r57, h56))))))
def F_X7_isSign (o : Nat) (p0 : Int32) (p1 : Int32) (h : Hp) : Option (Int32 × Hp) :=
  if p0 ≤ (h.1 o 20) then (some ((0 : Int32), h)) else ((h.2 o 4).bind fun q1 => ck (aIn shM q1 (h.1 o 20)) (if (h.1 q1 ((h.1 o 20)).toNatClampNeg) = p1 then (nm (pI h o 20 ((h.1 o 20) + (1 : Int32))) fun h2 => some ((1 : Int32), h2)) else (some ((0 : Int32), h))))
def F_X7_digit (o : Nat) (p0 : Int32) (p1 : Int32) (p2 : Int32) (h : Hp) : Option (Int32 × Hp) :=
  if p0 ≤ (h.1 o 20) then (some ((-9 : Int32), h)) else ((h.2 o 4).bind fun q1 => ck (aIn shM q1 (h.1 o 20)) (bnd (F_X7_within (h.1 q1 ((h.1 o 20)).toNatClampNeg) ((48 : Int32) + p1) ((48 : Int32) + p2) h) fun r3 h2 => if r3 = (0 : Int32) then (some ((-9 : Int32), h2)) else (nm (pI h2 o 20 ((h2.1 o 20) + (1 : Int32))) fun h4 => (h4.2 o 4).bind fun q5 => ck (aIn shM q5 ((h4.1 o 20) - (1 : Int32))) (some (((h4.1 q5 (((h4.1 o 20) - (1 : Int32))).toNatClampNeg) - (48 : Int32)), h4)))))
def F_X7_readOneCheese_J66 (q8 : Nat) (x9 : Int32) (x10 : Int32) (y11 : Int32) (y12 : Int32) (y13 : Nat) (h14 : Hp) : Option (Int32 × Hp) :=
  ck (aIn shM y13 y12) (nm (pI h14 y13 (y12).toNatClampNeg y11) fun h15 => (h15.2 q8 24).bind fun q16 => ck (aIn shM q16 x10) (if (h15.1 q16 (x10).toNatClampNeg) = (-9 : Int32) then (some ((0 : Int32), h15)) else (nm (pI h15 q8 20 ((h15.1 q8 20) + (1 : Int32))) fun h17 => (h17.2 q8 24).bind fun q18 => bnd (F_X7_digit q8 x9 (0 : Int32) ((h17.1 q8 21) - (1 : Int32)) h17) fun r20 h19 => ck (aIn shM q18 (x10 + (1 : Int32))) (nm (pI h19 q18 ((x10 + (1 : Int32))).toNatClampNeg r20) fun h21 => (h21.2 q8 24).bind fun q22 => ck (aIn shM q22 (x10 + (1 : Int32))) (if (h21.1 q22 ((x10 + (1 : Int32))).toNatClampNeg) = (-9 : Int32) then (some ((0 : Int32), h21)) else ((h21.2 q8 24).bind fun q23 => bnd (F_X7_digit q8 x9 (0 : Int32) (9 : Int32) h21) fun r25 h24 => ck (aIn shM q23 (x10 + (2 : Int32))) (nm (pI h24 q23 ((x10 + (2 : Int32))).toNatClampNeg r25) fun h26 => nm (pI h26 q8 22 ((h26.1 q8 22) + (1 : Int32))) fun h27 => (h27.2 q8 24).bind fun q28 => ck (aIn shM q28 (x10 + (2 : Int32))) (if (h27.1 q28 ((x10 + (2 : Int32))).toNatClampNeg) = (-9 : Int32) then (some ((0 : Int32), h27)) else (some ((1 : Int32), h27))))))))))
def F_X7_readOneCheese_J28 (q2 : Nat) (x3 : Int32) (x4 : Int32) (y5 : Int32) (h6 : Hp) : Option (Int32 × Hp) :=
  (h6.2 q2 24).bind fun q7 => if y5 = (99 : Int32) then (F_X7_readOneCheese_J66 q2 x3 x4 (0 : Int32) x4 q7 h6) else (if y5 = (119 : Int32) then (F_X7_readOneCheese_J66 q2 x3 x4 (1 : Int32) x4 q7 h6) else (if y5 = (109 : Int32) then (F_X7_readOneCheese_J66 q2 x3 x4 (2 : Int32) x4 q7 h6) else (F_X7_readOneCheese_J66 q2 x3 x4 (-9 : Int32) x4 q7 h6)))
def F_X7_readOneCheese (o : Nat) (p0 : Int32) (h : Hp) : Option (Int32 × Hp) :=
  nm ((3 : Int32) * (h.1 o 22)) fun x1 => if p0 ≤ (h.1 o 20) then (F_X7_readOneCheese_J28 o p0 x1 (0 : Int32) h) else ((h.2 o 4).bind fun q35 => ck (aIn shM q35 (h.1 o 20)) (F_X7_readOneCheese_J28 o p0 x1 (h.1 q35 ((h.1 o 20)).toNatClampNeg) h))
def F_X7_readOneTalk (o : Nat) (p0 : Int32) (h : Hp) : Option (Int32 × Hp) :=
  nm ((3 : Int32) * (h.1 o 23)) fun x1 => (h.2 o 25).bind fun q2 => bnd (F_X7_digit o p0 (0 : Int32) ((h.1 o 21) - (1 : Int32)) h) fun r4 h3 => ck (aIn shM q2 x1) (nm (pI h3 q2 (x1).toNatClampNeg r4) fun h5 => (h5.2 o 25).bind fun q6 => ck (aIn shM q6 x1) (if (h5.1 q6 (x1).toNatClampNeg) = (-9 : Int32) then (some ((0 : Int32), h5)) else ((h5.2 o 25).bind fun q7 => bnd (F_X7_digit o p0 (1 : Int32) (9 : Int32) h5) fun r9 h8 => ck (aIn shM q7 (x1 + (1 : Int32))) (nm (pI h8 q7 ((x1 + (1 : Int32))).toNatClampNeg r9) fun h10 => (h10.2 o 25).bind fun q11 => ck (aIn shM q11 (x1 + (1 : Int32))) (if (h10.1 q11 ((x1 + (1 : Int32))).toNatClampNeg) = (-9 : Int32) then (some ((0 : Int32), h10)) else ((h10.2 o 25).bind fun q12 => bnd (F_X7_digit o p0 (0 : Int32) (7 : Int32) h10) fun r14 h13 => ck (aIn shM q12 (x1 + (2 : Int32))) (nm (pI h13 q12 ((x1 + (2 : Int32))).toNatClampNeg r14) fun h15 => nm (pI h15 o 23 ((h15.1 o 23) + (1 : Int32))) fun h16 => (h16.2 o 25).bind fun q17 => ck (aIn shM q17 (x1 + (2 : Int32))) (if (h16.1 q17 ((x1 + (2 : Int32))).toNatClampNeg) = (-9 : Int32) then (some ((0 : Int32), h16)) else (some ((1 : Int32), h16))))))))))
def F_X7_readDairy_L62 (k90 : Hp → Option (Int32 × Hp)) (q12 : Nat) (x13 : Int32) : Nat → Hp → Option (Int32 × Hp)
  | 0, _ => none
  | N + 1, h14 =>
  if (4 : Int32) ≤ (h14.1 q12 22) then (k90 h14) else (bnd (F_X7_isSign q12 x13 (44 : Int32) h14) fun r16 h15 => if r16 = (0 : Int32) then (k90 h15) else (bnd (F_X7_readOneCheese q12 x13 h15) fun r18 h17 => if r18 = (0 : Int32) then (some ((0 : Int32), h17)) else (F_X7_readDairy_L62 k90 q12 x13 N h17)))
def F_X7_readDairy_L110 (k139 : Hp → Option (Int32 × Hp)) (q30 : Nat) (x31 : Int32) : Nat → Hp → Option (Int32 × Hp)
  | 0, _ => none
  | N + 1, h32 =>
  if (8 : Int32) ≤ (h32.1 q30 23) then (k139 h32) else (bnd (F_X7_isSign q30 x31 (59 : Int32) h32) fun r34 h33 => if r34 = (0 : Int32) then (k139 h33) else (bnd (F_X7_readOneTalk q30 x31 h33) fun r36 h35 => if r36 = (0 : Int32) then (some ((0 : Int32), h35)) else (F_X7_readDairy_L110 k139 q30 x31 N h35)))
def F_X7_readDairy_J139 (q41 : Nat) (x42 : Int32) (h43 : Hp) : Option (Int32 × Hp) :=
  if (h43.1 q41 20) = x42 then (some ((1 : Int32), h43)) else (some ((0 : Int32), h43))
def F_X7_readDairy_J90 (q23 : Nat) (x24 : Int32) (h25 : Hp) : Option (Int32 × Hp) :=
  bnd (F_X7_isSign q23 x24 (59 : Int32) h25) fun r27 h26 => if r27 = (0 : Int32) then (some ((0 : Int32), h26)) else (bnd (F_X7_readOneTalk q23 x24 h26) fun r29 h28 => if r29 = (0 : Int32) then (some ((0 : Int32), h28)) else (F_X7_readDairy_L110 (fun h40 => F_X7_readDairy_J139 q23 x24 h40) q23 x24 FU h28))
def F_X7_readDairy (o : Nat) (p0 : Int32) (h : Hp) : Option (Int32 × Hp) :=
  nm (pI h o 22 (0 : Int32)) fun h1 => nm (pI h1 o 23 (0 : Int32)) fun h2 => bnd (F_X7_isSign o p0 (113 : Int32) h2) fun r4 h3 => if r4 = (0 : Int32) then (some ((0 : Int32), h3)) else (bnd (F_X7_digit o p0 (1 : Int32) (5 : Int32) h3) fun r6 h5 => nm (pI h5 o 21 r6) fun h7 => if (h7.1 o 21) = (-9 : Int32) then (some ((0 : Int32), h7)) else (bnd (F_X7_isSign o p0 (44 : Int32) h7) fun r9 h8 => if r9 = (0 : Int32) then (some ((0 : Int32), h8)) else (bnd (F_X7_readOneCheese o p0 h8) fun r11 h10 => if r11 = (0 : Int32) then (some ((0 : Int32), h10)) else (F_X7_readDairy_L62 (fun h22 => F_X7_readDairy_J90 o p0 h22) o p0 FU h10))))
def F_X7_takeDairy_L26 (k94 : Hp → Option (Unit × Hp)) (q4 : Nat) : Nat → Int32 → Hp → Option (Unit × Hp)
  | 0, _, _ => none
  | N + 1, x5, h6 =>
  if (h6.1 q4 6) ≤ x5 then (k94 h6) else ((h6.2 q4 8).bind fun q7 => (h6.2 q4 24).bind fun q8 => ck (aIn shM q8 ((3 : Int32) * x5)) (ck (aIn shM q7 x5) (nm (pI h6 q7 (x5).toNatClampNeg (h6.1 q8 (((3 : Int32) * x5)).toNatClampNeg)) fun h9 => (h9.2 q4 9).bind fun q10 => (h9.2 q4 24).bind fun q11 => ck (aIn shM q11 (((3 : Int32) * x5) + (1 : Int32))) (ck (aIn shM q10 x5) (nm (pI h9 q10 (x5).toNatClampNeg (h9.1 q11 ((((3 : Int32) * x5) + (1 : Int32))).toNatClampNeg)) fun h12 => (h12.2 q4 10).bind fun q13 => (h12.2 q4 24).bind fun q14 => ck (aIn shM q14 (((3 : Int32) * x5) + (2 : Int32))) (ck (aIn shM q13 x5) (nm (pI h12 q13 (x5).toNatClampNeg (h12.1 q14 ((((3 : Int32) * x5) + (2 : Int32))).toNatClampNeg)) fun h15 => (h15.2 q4 11).bind fun q16 => ck (aIn shM q16 x5) (nm (pI h15 q16 (x5).toNatClampNeg (-9 : Int32)) fun h17 => nm (x5 + (1 : Int32)) fun x18 => F_X7_takeDairy_L26 k94 q4 N x18 h17))))))))
def F_X7_takeDairy_L96 (q21 : Nat) : Nat → Int32 → Hp → Option (Unit × Hp)
  | 0, _, _ => none
  | N + 1, x22, h23 =>
  if (h23.1 q21 7) ≤ x22 then (nm (pI h23 q21 15 (0 : Int32)) fun h24 => nm (pI h24 q21 29 (0 : Int32)) fun h25 => some ((), h25)) else ((h23.2 q21 12).bind fun q26 => (h23.2 q21 25).bind fun q27 => ck (aIn shM q27 ((3 : Int32) * x22)) (ck (aIn shM q26 x22) (nm (pI h23 q26 (x22).toNatClampNeg (h23.1 q27 (((3 : Int32) * x22)).toNatClampNeg)) fun h28 => (h28.2 q21 13).bind fun q29 => (h28.2 q21 25).bind fun q30 => ck (aIn shM q30 (((3 : Int32) * x22) + (1 : Int32))) (ck (aIn shM q29 x22) (nm (pI h28 q29 (x22).toNatClampNeg (h28.1 q30 ((((3 : Int32) * x22) + (1 : Int32))).toNatClampNeg)) fun h31 => (h31.2 q21 14).bind fun q32 => (h31.2 q21 25).bind fun q33 => ck (aIn shM q33 (((3 : Int32) * x22) + (2 : Int32))) (ck (aIn shM q32 x22) (nm (pI h31 q32 (x22).toNatClampNeg (h31.1 q33 ((((3 : Int32) * x22) + (2 : Int32))).toNatClampNeg)) fun h34 => nm (x22 + (1 : Int32)) fun x35 => F_X7_takeDairy_L96 q21 N x35 h34)))))))
def F_X7_takeDairy (o : Nat) (h : Hp) : Option (Unit × Hp) :=
  nm (pI h o 5 (h.1 o 21)) fun h1 => nm (pI h1 o 6 (h1.1 o 22)) fun h2 => nm (pI h2 o 7 (h2.1 o 23)) fun h3 => F_X7_takeDairy_L26 (fun h20 => F_X7_takeDairy_L96 o FU (0 : Int32) h20) o FU (0 : Int32) h3
def F_X7_dairy (o : Nat) (p0 : Int32) (p1 : Int32) (p2 : Int32) (p3 : Int32) (h : Hp) : Option (Int32 × Hp) :=
  nm (pI h o 0 (0 : Int32)) fun h1 => bnd (F_X7_isSheet p0 h1) fun r3 h2 => if r3 = (0 : Int32) then (some ((-1 : Int32), h2)) else (bnd (F_X7_isSort p1 h2) fun r5 h4 => if r5 = (0 : Int32) then (some ((-2 : Int32), h4)) else (bnd (F_X7_against o p0 p1 p2 p3 h4) fun r7 h6 => if r7 = (0 : Int32) then (nm (((60 : Int32) * p0) + p2) fun x8 => nm (pI h6 o 20 x8) fun h9 => bnd (F_X7_readDairy o (x8 + p3) h9) fun r11 h10 => if r11 = (0 : Int32) then (some (((-100 : Int32) - ((h10.1 o 20) - x8)), h10)) else (bnd (F_X7_takeDairy o h10) fun _ h12 => some ((h12.1 o 7), h12))) else (bnd (F_X7_fails o r7 h6) fun r15 h14 => some (r15, h14))))
def F_X7_isWord (p0 : Int32) (h : Hp) : Option (Int32 × Hp) :=
  bnd (F_X7_within p0 (0 : Int32) (7 : Int32) h) fun r2 h1 => ck (isB r2) (some (r2, h1))
def F_X7_deep_L26 (q7 : Nat) (x8 : Int32) (x9 : Int32) : Nat → Int32 → Hp → Option (Int32 × Hp)
  | 0, _, _ => none
  | N + 1, x10, h11 =>
  bnd (F_X7_size x9 h11) fun r13 h12 => if r13 ≤ x10 then (some ((-9 : Int32), h12)) else ((h12.2 q7 14).bind fun q14 => bnd (F_X7_layerOf q7 x9 x10 h12) fun r16 h15 => ck (aIn shM q14 r16) (if (h15.1 q14 (r16).toNatClampNeg) = x8 then (some ((x10 + (1 : Int32)), h15)) else (nm (x10 + (1 : Int32)) fun x17 => F_X7_deep_L26 q7 x8 x9 N x17 h15)))
def F_X7_deep (o : Nat) (p0 : Int32) (p1 : Int32) (h : Hp) : Option (Int32 × Hp) :=
  bnd (F_X7_isCheese o p0 h) fun r2 h1 => if r2 = (0 : Int32) then (some ((-1 : Int32), h1)) else (bnd (F_X7_isWord p1 h1) fun r4 h3 => if r4 = (0 : Int32) then (some ((-1 : Int32), h3)) else (bnd (F_X7_heardBy o p0 h3) fun r6 h5 => F_X7_deep_L26 o p1 r6 FU (0 : Int32) h5))
def F_X7_fault (o : Nat) (h : Hp) : Option (Int32 × Hp) :=
  some ((h.1 o 0), h)
def F_X7_rowsOf_L4 (q1 : Nat) (x2 : Int32) : Nat → Int32 → Int32 → Hp → Option (Int32 × Hp)
  | 0, _, _, _ => none
  | N + 1, x3, x4, h5 =>
  if (h5.1 q1 6) ≤ x4 then (some (x3, h5)) else (nm (x3 * x2) fun x6 => nm (x4 + (1 : Int32)) fun x7 => F_X7_rowsOf_L4 q1 x2 N x6 x7 h5)
def F_X7_rowsOf (o : Nat) (p0 : Int32) (h : Hp) : Option (Int32 × Hp) :=
  F_X7_rowsOf_L4 o p0 FU (1 : Int32) (0 : Int32) h
def F_X7_layRow_L10 (q2 : Nat) (x3 : Int32) : Nat → Int32 → Int32 → Hp → Option (Unit × Hp)
  | 0, _, _, _ => none
  | N + 1, x4, x5, h6 =>
  if x5 < (0 : Int32) then (some ((), h6)) else ((h6.2 q2 26).bind fun q7 => ck (!decide (x3 = 0)) (ck (aIn shM q7 x5) (nm (pI h6 q7 (x5).toNatClampNeg (x4 - x4 / x3 * x3)) fun h8 => ck (!decide (x3 = 0)) (nm (x4 / x3) fun x9 => nm (x5 + (-1 : Int32)) fun x10 => F_X7_layRow_L10 q2 x3 N x9 x10 h8))))
def F_X7_layRow (o : Nat) (p0 : Int32) (p1 : Int32) (h : Hp) : Option (Unit × Hp) :=
  nm ((h.1 o 6) - (1 : Int32)) fun x1 => F_X7_layRow_L10 o p1 FU p0 x1 h
def F_X7_wordsHeard_L4 (k32 : Int32 → Hp → Option (Int32 × Hp)) (q1 : Nat) : Nat → Int32 → Int32 → Hp → Option (Int32 × Hp)
  | 0, _, _, _ => none
  | N + 1, x2, x3, h4 =>
  if (h4.1 q1 6) ≤ x3 then (k32 x2 h4) else (bnd (F_X7_heardBy q1 x3 h4) fun r6 h5 => bnd (F_X7_wordsOf q1 r6 (8 : Int32) h5) fun r8 h7 => nm (x2 ||| r8) fun x9 => nm (x3 + (1 : Int32)) fun x10 => F_X7_wordsHeard_L4 k32 q1 N x9 x10 h7)
def F_X7_wordsHeard (o : Nat) (h : Hp) : Option (Int32 × Hp) :=
  F_X7_wordsHeard_L4 (fun w12 h13 => bnd (F_X7_size w12 h13) fun r15 h14 => some (r15, h14)) o FU (0 : Int32) (0 : Int32) h
def F_X7_keepRow_L2 (q1 : Nat) : Nat → Int32 → Hp → Option (Unit × Hp)
  | 0, _, _ => none
  | N + 1, x2, h3 =>
  if (h3.1 q1 6) ≤ x2 then (some ((), h3)) else ((h3.2 q1 27).bind fun q4 => (h3.2 q1 26).bind fun q5 => ck (aIn shM q5 x2) (ck (aIn shM q4 x2) (nm (pI h3 q4 (x2).toNatClampNeg (h3.1 q5 (x2).toNatClampNeg)) fun h6 => nm (x2 + (1 : Int32)) fun x7 => F_X7_keepRow_L2 q1 N x7 h6)))
def F_X7_keepRow (o : Nat) (h : Hp) : Option (Unit × Hp) :=
  F_X7_keepRow_L2 o FU (0 : Int32) h
def F_X7_findShelves_L12 (k38 : Hp → Option (Int32 × Hp)) (q3 : Nat) (x4 : Int32) : Nat → Int32 → Hp → Option (Int32 × Hp)
  | 0, _, _ => none
  | N + 1, x5, h6 =>
  if (h6.1 q3 6) ≤ x5 then (k38 h6) else ((h6.2 q3 28).bind fun q7 => (h6.2 q3 9).bind fun q8 => ck (aIn shM q8 x5) (ck (aIn shM q7 x5) (nm (pI h6 q7 (x5).toNatClampNeg (h6.1 q8 (x5).toNatClampNeg)) fun h9 => nm (x5 + (1 : Int32)) fun x10 => F_X7_findShelves_L12 k38 q3 x4 N x10 h9)))
def F_X7_findShelves_L67 (k96 : Hp → Option (Int32 × Hp)) (q21 : Nat) (x22 : Int32) (x23 : Int32) (x24 : Int32) : Nat → Int32 → Hp → Option (Int32 × Hp)
  | 0, _, _ => none
  | N + 1, x25, h26 =>
  if (h26.1 q21 6) ≤ x25 then (k96 h26) else ((h26.2 q21 9).bind fun q27 => (h26.2 q21 26).bind fun q28 => ck (aIn shM q28 x25) (ck (aIn shM q27 x25) (nm (pI h26 q27 (x25).toNatClampNeg (h26.1 q28 (x25).toNatClampNeg)) fun h29 => nm (x25 + (1 : Int32)) fun x30 => F_X7_findShelves_L67 k96 q21 x22 x23 x24 N x30 h29)))
def F_X7_findShelves_L43 (k121 : Int32 → Hp → Option (Int32 × Hp)) (q13 : Nat) (x14 : Int32) : Nat → Int32 → Int32 → Hp → Option (Int32 × Hp)
  | 0, _, _, _ => none
  | N + 1, x15, x16, h17 =>
  bnd (F_X7_rowsOf q13 (h17.1 q13 5) h17) fun r19 h18 => if r19 ≤ x16 then (k121 x15 h18) else (bnd (F_X7_layRow q13 x16 (h18.1 q13 5) h18) fun _ h20 => F_X7_findShelves_L67 (fun h32 => bnd (F_X7_wordsHeard q13 h32) fun r34 h33 => if r34 ≤ x15 then (nm (x16 + (1 : Int32)) fun x35 => F_X7_findShelves_L43 k121 q13 x14 N x15 x35 h33) else (bnd (F_X7_keepRow q13 h33) fun _ h36 => nm (x16 + (1 : Int32)) fun x37 => F_X7_findShelves_L43 k121 q13 x14 N r34 x37 h36)) q13 x14 x15 x16 FU (0 : Int32) h20)
def F_X7_findShelves_L123 (q42 : Nat) (x43 : Int32) (x44 : Int32) : Nat → Int32 → Hp → Option (Int32 × Hp)
  | 0, _, _ => none
  | N + 1, x45, h46 =>
  if (h46.1 q42 6) ≤ x45 then (nm (pI h46 q42 15 x43) fun h47 => some (x44, h47)) else ((h46.2 q42 9).bind fun q48 => (h46.2 q42 28).bind fun q49 => ck (aIn shM q49 x45) (ck (aIn shM q48 x45) (nm (pI h46 q48 (x45).toNatClampNeg (h46.1 q49 (x45).toNatClampNeg)) fun h50 => nm (x45 + (1 : Int32)) fun x51 => F_X7_findShelves_L123 q42 x43 x44 N x51 h50)))
def F_X7_findShelves (o : Nat) (h : Hp) : Option (Int32 × Hp) :=
  nm (h.1 o 15) fun x1 => nm (pI h o 15 (0 : Int32)) fun h2 => F_X7_findShelves_L12 (fun h12 => F_X7_findShelves_L43 (fun w40 h41 => F_X7_findShelves_L123 o x1 w40 FU (0 : Int32) h41) o x1 FU (-9 : Int32) (0 : Int32) h12) o x1 FU (0 : Int32) h2
def F_X7_sparedBy_L8 (k77 : Int32 → Int32 → Hp → Option (Int32 × Hp)) (q1 : Nat) (x2 : Int32) (x3 : Int32) : Nat → Int32 → Int32 → Int32 → Hp → Option (Int32 × Hp)
  | 0, _, _, _, _ => none
  | N + 1, x4, x5, x6, h7 =>
  if (h7.1 q1 6) ≤ x6 then (k77 x4 x5 h7) else (bnd (F_X7_heardBy q1 x6 h7) fun r9 h8 => (h8.2 q1 26).bind fun q10 => ck (aIn shM q10 x6) (bnd (F_X7_size r9 h8) fun r12 h11 => if (h8.1 q10 (x6).toNatClampNeg) ≤ r12 then ((h11.2 q1 26).bind fun q13 => ck (aIn shM q13 x6) (nm (x4 + (h11.1 q13 (x6).toNatClampNeg)) fun x14 => (h11.2 q1 26).bind fun q15 => ck (aIn shM q15 x6) (bnd (F_X7_wordsOf q1 r9 (h11.1 q15 (x6).toNatClampNeg) h11) fun r17 h16 => nm (x5 ||| r17) fun x18 => nm (x6 + (1 : Int32)) fun x19 => F_X7_sparedBy_L8 k77 q1 x2 x3 N x14 x18 x19 h16))) else (some ((-9 : Int32), h11))))
def F_X7_sparedBy (o : Nat) (p0 : Int32) (p1 : Int32) (h : Hp) : Option (Int32 × Hp) :=
  F_X7_sparedBy_L8 (fun w22 w23 h24 => if (p0 &&& (w23 ^^^ (-1 : Int32))) = (0 : Int32) then (if (p1 &&& w23) = (0 : Int32) then (some (w22, h24)) else (some ((-9 : Int32), h24))) else (some ((-9 : Int32), h24))) o p0 p1 FU (0 : Int32) (0 : Int32) (0 : Int32) h
def F_X7_findSpare_J52 (k6 : Int32 → Int32 → Hp → Option (Int32 × Hp)) (q1 : Nat) (x2 : Int32) (x3 : Int32) (x16 : Int32) (x17 : Int32) (h18 : Hp) : Option (Int32 × Hp) :=
  bnd (F_X7_keepRow q1 h18) fun _ h19 => nm (x16 + (1 : Int32)) fun x20 => k6 x17 x20 h19
def F_X7_findSpare_L6 (q1 : Nat) (x2 : Int32) (x3 : Int32) : Nat → Int32 → Int32 → Hp → Option (Int32 × Hp)
  | 0, _, _, _ => none
  | N + 1, x4, x5, h6 =>
  bnd (F_X7_rowsOf q1 (9 : Int32) h6) fun r8 h7 => if r8 ≤ x5 then (some (x4, h7)) else (bnd (F_X7_layRow q1 x5 (9 : Int32) h7) fun _ h9 => bnd (F_X7_sparedBy q1 x2 x3 h9) fun r11 h10 => if r11 = (-9 : Int32) then (nm (x5 + (1 : Int32)) fun x12 => F_X7_findSpare_L6 q1 x2 x3 N x4 x12 h10) else (if x4 = (-9 : Int32) then (F_X7_findSpare_J52 (F_X7_findSpare_L6 q1 x2 x3 N) q1 x2 x3 x5 r11 h10) else (if x4 ≤ r11 then (nm (x5 + (1 : Int32)) fun x21 => F_X7_findSpare_L6 q1 x2 x3 N x4 x21 h10) else (F_X7_findSpare_J52 (F_X7_findSpare_L6 q1 x2 x3 N) q1 x2 x3 x5 r11 h10))))
def F_X7_findSpare (o : Nat) (p0 : Int32) (p1 : Int32) (h : Hp) : Option (Int32 × Hp) :=
  F_X7_findSpare_L6 o p0 p1 FU (-9 : Int32) (0 : Int32) h
def F_X7_heard (o : Nat) (p0 : Int32) (h : Hp) : Option (Int32 × Hp) :=
  bnd (F_X7_isCheese o p0 h) fun r2 h1 => if r2 = (0 : Int32) then (some ((-1 : Int32), h1)) else (bnd (F_X7_heardBy o p0 h1) fun r4 h3 => some (r4, h3))
def F_X7_inLeastTerms_L6 (k31 : Int64 → Hp → Option (Int64 × Hp)) (x1 : Int64) (x2 : Int64) (x3 : Int32) : Nat → Int64 → Int64 → Hp → Option (Int64 × Hp)
  | 0, _, _, _ => none
  | N + 1, x4, x5, h6 =>
  if (lg_cmp x5 (0 : Int64)) = (0 : Int32) then (k31 x4 h6) else (ck (!decide (x5 = 0)) (nm (x4 - x4 / x5 * x5) fun x7 => F_X7_inLeastTerms_L6 k31 x1 x2 x3 N x5 x7 h6))
def F_X7_inLeastTerms (p0 : Int64) (p1 : Int64) (p2 : Int32) (h : Hp) : Option (Int64 × Hp) :=
  F_X7_inLeastTerms_L6 (fun w10 h11 => if p2 = (0 : Int32) then (ck (!decide (w10 = 0)) (some ((p0 / w10), h11))) else (ck (!decide (w10 = 0)) (some ((p1 / w10), h11)))) p0 p1 p2 FU p0 p1 h
def F_X7_isCellar (o : Nat) (p0 : Int32) (h : Hp) : Option (Int32 × Hp) :=
  if p0 < (0 : Int32) then (some ((0 : Int32), h)) else (if (h.1 o 5) ≤ p0 then (some ((0 : Int32), h)) else (some ((1 : Int32), h)))
def F_X7_isDay (p0 : Int32) (h : Hp) : Option (Int32 × Hp) :=
  bnd (F_X7_within p0 (0 : Int32) (7 : Int32) h) fun r2 h1 => ck (isB r2) (some (r2, h1))
def F_X7_isTalk (o : Nat) (p0 : Int32) (h : Hp) : Option (Int32 × Hp) :=
  if p0 < (0 : Int32) then (some ((0 : Int32), h)) else (if (h.1 o 7) ≤ p0 then (some ((0 : Int32), h)) else (some ((1 : Int32), h)))
def F_X7_kinds_L22 (q5 : Nat) (x6 : Int32) (x7 : Int32) : Nat → Int32 → Int32 → Hp → Option (Int32 × Hp)
  | 0, _, _, _ => none
  | N + 1, x8, x9, h10 =>
  if (3 : Int32) ≤ x9 then ((h10.2 q5 8).bind fun q11 => ck (aIn shM q11 x6) (nm (pI h10 q11 (x6).toNatClampNeg x7) fun h12 => some (x8, h12))) else ((h10.2 q5 8).bind fun q13 => ck (aIn shM q13 x6) (nm (pI h10 q13 (x6).toNatClampNeg x9) fun h14 => bnd (F_X7_areSo q5 h14) fun r16 h15 => if r16 = (0 : Int32) then (nm (x8 ||| (0 : Int32)) fun x17 => nm (x9 + (1 : Int32)) fun x18 => F_X7_kinds_L22 q5 x6 x7 N x17 x18 h15) else (nm (x8 ||| ((1 : Int32) <<< (x9 &&& 31))) fun x19 => nm (x9 + (1 : Int32)) fun x20 => F_X7_kinds_L22 q5 x6 x7 N x19 x20 h15)))
def F_X7_kinds (o : Nat) (p0 : Int32) (h : Hp) : Option (Int32 × Hp) :=
  bnd (F_X7_isCheese o p0 h) fun r2 h1 => if r2 = (0 : Int32) then (some ((-1 : Int32), h1)) else ((h1.2 o 8).bind fun q3 => ck (aIn shM q3 p0) (nm (h1.1 q3 (p0).toNatClampNeg) fun x4 => F_X7_kinds_L22 o p0 x4 FU (0 : Int32) (0 : Int32) h1))
def F_X7_lay_L22 (q5 : Nat) (x6 : Int32) (x7 : Int32) : Nat → Int32 → Int32 → Hp → Option (Int32 × Hp)
  | 0, _, _, _ => none
  | N + 1, x8, x9, h10 =>
  if (h10.1 q5 5) ≤ x9 then ((h10.2 q5 9).bind fun q11 => ck (aIn shM q11 x6) (nm (pI h10 q11 (x6).toNatClampNeg x7) fun h12 => some (x8, h12))) else ((h10.2 q5 9).bind fun q13 => ck (aIn shM q13 x6) (nm (pI h10 q13 (x6).toNatClampNeg x9) fun h14 => bnd (F_X7_areSo q5 h14) fun r16 h15 => if r16 = (0 : Int32) then (nm (x8 ||| (0 : Int32)) fun x17 => nm (x9 + (1 : Int32)) fun x18 => F_X7_lay_L22 q5 x6 x7 N x17 x18 h15) else (nm (x8 ||| ((1 : Int32) <<< (x9 &&& 31))) fun x19 => nm (x9 + (1 : Int32)) fun x20 => F_X7_lay_L22 q5 x6 x7 N x19 x20 h15)))
def F_X7_lay (o : Nat) (p0 : Int32) (h : Hp) : Option (Int32 × Hp) :=
  bnd (F_X7_isCheese o p0 h) fun r2 h1 => if r2 = (0 : Int32) then (some ((-1 : Int32), h1)) else ((h1.2 o 9).bind fun q3 => ck (aIn shM q3 p0) (nm (h1.1 q3 (p0).toNatClampNeg) fun x4 => F_X7_lay_L22 o p0 x4 FU (0 : Int32) (0 : Int32) h1))
def F_X7_layer (o : Nat) (p0 : Int32) (p1 : Int32) (h : Hp) : Option (Int32 × Hp) :=
  bnd (F_X7_isCheese o p0 h) fun r2 h1 => if r2 = (0 : Int32) then (some ((-1 : Int32), h1)) else (if p1 < (0 : Int32) then (some ((-1 : Int32), h1)) else (bnd (F_X7_heardBy o p0 h1) fun r4 h3 => bnd (F_X7_layerOf o r4 p1 h3) fun r6 h5 => some (r6, h5)))
def F_X7_lose_J25 (q4 : Nat) (x5 : Int32) (y6 : Int32) (h7 : Hp) : Option (Int32 × Hp) :=
  (h7.2 q4 2).bind fun q8 => ck (aIn shM q8 x5) (nm (pI h7 q8 (x5).toNatClampNeg (-9 : Int32)) fun h9 => some (y6, h9))
def F_X7_lose (o : Nat) (p0 : Int32) (h : Hp) : Option (Int32 × Hp) :=
  bnd (F_X7_isSheet p0 h) fun r2 h1 => if r2 = (0 : Int32) then (some ((-1 : Int32), h1)) else ((h1.2 o 2).bind fun q3 => ck (aIn shM q3 p0) (if (h1.1 q3 (p0).toNatClampNeg) = (-9 : Int32) then (F_X7_lose_J25 o p0 (0 : Int32) h1) else (F_X7_lose_J25 o p0 (1 : Int32) h1)))
def F_X7_louds_L22 (q5 : Nat) (x6 : Int32) (x7 : Int32) : Nat → Int32 → Int32 → Hp → Option (Int32 × Hp)
  | 0, _, _, _ => none
  | N + 1, x8, x9, h10 =>
  if (9 : Int32) < x9 then ((h10.2 q5 13).bind fun q11 => ck (aIn shM q11 x6) (nm (pI h10 q11 (x6).toNatClampNeg x7) fun h12 => some (x8, h12))) else ((h10.2 q5 13).bind fun q13 => ck (aIn shM q13 x6) (nm (pI h10 q13 (x6).toNatClampNeg x9) fun h14 => bnd (F_X7_areSo q5 h14) fun r16 h15 => if r16 = (0 : Int32) then (nm (x8 ||| (0 : Int32)) fun x17 => nm (x9 + (1 : Int32)) fun x18 => F_X7_louds_L22 q5 x6 x7 N x17 x18 h15) else (nm (x8 ||| ((1 : Int32) <<< (x9 &&& 31))) fun x19 => nm (x9 + (1 : Int32)) fun x20 => F_X7_louds_L22 q5 x6 x7 N x19 x20 h15)))
def F_X7_louds (o : Nat) (p0 : Int32) (h : Hp) : Option (Int32 × Hp) :=
  bnd (F_X7_isTalk o p0 h) fun r2 h1 => if r2 = (0 : Int32) then (some ((-1 : Int32), h1)) else ((h1.2 o 13).bind fun q3 => ck (aIn shM q3 p0) (nm (h1.1 q3 (p0).toNatClampNeg) fun x4 => F_X7_louds_L22 o p0 x4 FU (0 : Int32) (1 : Int32) h1))
def F_X7_many (o : Nat) (p0 : Int32) (h : Hp) : Option (Int32 × Hp) :=
  if p0 = (0 : Int32) then (some ((h.1 o 7), h)) else (if p0 = (1 : Int32) then (some ((h.1 o 6), h)) else (if p0 = (2 : Int32) then (some ((h.1 o 5), h)) else (if p0 = (3 : Int32) then (some ((h.1 o 15), h)) else (if p0 = (4 : Int32) then (some ((h.1 o 29), h)) else (some ((-2 : Int32), h))))))
def F_X7_move (o : Nat) (p0 : Int32) (p1 : Int32) (p2 : Int32) (h : Hp) : Option (Int32 × Hp) :=
  bnd (F_X7_isCheese o p0 h) fun r2 h1 => if r2 = (0 : Int32) then (some ((-1 : Int32), h1)) else (bnd (F_X7_isCellar o p2 h1) fun r4 h3 => if r4 = (0 : Int32) then (some ((-1 : Int32), h3)) else (bnd (F_X7_isDay p1 h3) fun r6 h5 => if r6 = (0 : Int32) then (some ((-2 : Int32), h5)) else (if (h5.1 o 15) = (8 : Int32) then (some ((-4 : Int32), h5)) else ((h5.2 o 16).bind fun q7 => ck (aIn shM q7 (h5.1 o 15)) (nm (pI h5 q7 ((h5.1 o 15)).toNatClampNeg p0) fun h8 => (h8.2 o 17).bind fun q9 => ck (aIn shM q9 (h8.1 o 15)) (nm (pI h8 q9 ((h8.1 o 15)).toNatClampNeg p1) fun h10 => (h10.2 o 18).bind fun q11 => ck (aIn shM q11 (h10.1 o 15)) (nm (pI h10 q11 ((h10.1 o 15)).toNatClampNeg p2) fun h12 => nm (pI h12 o 15 ((h12.1 o 15) + (1 : Int32))) fun h13 => some (((h13.1 o 15) - (1 : Int32)), h13))))))))
def F_X7_odds_L34 (k77 : Int32 → Hp → Option (Int64 × Hp)) (q7 : Nat) (x8 : Int32) (x9 : Int32) (x10 : Int32) : Nat → Int32 → Int32 → Hp → Option (Int64 × Hp)
  | 0, _, _, _ => none
  | N + 1, x11, x12, h13 =>
  if ((1 : Int32) <<< ((h13.1 q7 7) &&& 31)) ≤ x12 then (k77 x11 h13) else (nm (pI h13 q7 19 x12) fun h14 => bnd (F_X7_heardBy q7 x8 h14) fun r16 h15 => bnd (F_X7_wordsOf q7 r16 (8 : Int32) h15) fun r18 h17 => nm (x11 + ((r18 >>> (x9 &&& 31)) &&& (1 : Int32))) fun x19 => nm (x12 + (1 : Int32)) fun x20 => F_X7_odds_L34 k77 q7 x8 x9 x10 N x19 x20 h17)
def F_X7_odds (o : Nat) (p0 : Int32) (p1 : Int32) (p2 : Int32) (h : Hp) : Option (Int64 × Hp) :=
  bnd (F_X7_isCheese o p0 h) fun r2 h1 => if r2 = (0 : Int32) then (some ((-9223372036854775808 : Int64), h1)) else (bnd (F_X7_isWord p1 h1) fun r4 h3 => if r4 = (0 : Int32) then (some ((-9223372036854775808 : Int64), h3)) else (bnd (F_X7_within p2 (0 : Int32) (1 : Int32) h3) fun r6 h5 => if r6 = (0 : Int32) then (some ((-9223372036854775808 : Int64), h5)) else (F_X7_odds_L34 (fun w22 h23 => nm (pI h23 o 19 (0 : Int32)) fun h24 => bnd (F_X7_inLeastTerms (w22).toInt64 ((1 : Int64) <<< (((h24.1 o 7)).toInt64 &&& 63)) p2 h24) fun r26 h25 => some (r26, h25)) o p0 p1 p2 FU (0 : Int32) (0 : Int32) h5)))
def F_X7_ofCheese (o : Nat) (p0 : Int32) (p1 : Int32) (h : Hp) : Option (Int32 × Hp) :=
  bnd (F_X7_isCheese o p0 h) fun r2 h1 => if r2 = (0 : Int32) then (some ((-1 : Int32), h1)) else (if p1 = (0 : Int32) then ((h1.2 o 8).bind fun q3 => ck (aIn shM q3 p0) (some ((h1.1 q3 (p0).toNatClampNeg), h1))) else (if p1 = (1 : Int32) then ((h1.2 o 9).bind fun q4 => ck (aIn shM q4 p0) (some ((h1.1 q4 (p0).toNatClampNeg), h1))) else (if p1 = (2 : Int32) then ((h1.2 o 10).bind fun q5 => ck (aIn shM q5 p0) (some ((h1.1 q5 (p0).toNatClampNeg), h1))) else (if p1 = (3 : Int32) then ((h1.2 o 11).bind fun q6 => ck (aIn shM q6 p0) (some ((h1.1 q6 (p0).toNatClampNeg), h1))) else (some ((-2 : Int32), h1))))))
def F_X7_ofTalk (o : Nat) (p0 : Int32) (p1 : Int32) (h : Hp) : Option (Int32 × Hp) :=
  bnd (F_X7_isTalk o p0 h) fun r2 h1 => if r2 = (0 : Int32) then (some ((-1 : Int32), h1)) else (if p1 = (0 : Int32) then ((h1.2 o 12).bind fun q7 => ck (aIn shM q7 p0) (some ((h1.1 q7 (p0).toNatClampNeg), h1))) else (if p1 = (1 : Int32) then ((h1.2 o 13).bind fun q5 => ck (aIn shM q5 p0) (some ((h1.1 q5 (p0).toNatClampNeg), h1))) else (if p1 = (2 : Int32) then ((h1.2 o 14).bind fun q3 => ck (aIn shM q3 p0) (some ((h1.1 q3 (p0).toNatClampNeg), h1))) else (some ((-2 : Int32), h1)))))
def F_X7_put (o : Nat) (p0 : Int32) (p1 : Int32) (p2 : Int32) (h : Hp) : Option (Int32 × Hp) :=
  nm (pI h o 0 (0 : Int32)) fun h1 => bnd (F_X7_isSheet p0 h1) fun r3 h2 => if r3 = (0 : Int32) then (some ((-1 : Int32), h2)) else ((h2.2 o 2).bind fun q4 => ck (aIn shM q4 p0) (if (h2.1 q4 (p0).toNatClampNeg) = (-9 : Int32) then (bnd (F_X7_fails o (1 : Int32) h2) fun r20 h19 => some (r20, h19)) else ((h2.2 o 3).bind fun q5 => ck (aIn shM q5 p0) (bnd (F_X7_within p1 (0 : Int32) ((h2.1 q5 (p0).toNatClampNeg) - (1 : Int32)) h2) fun r7 h6 => if r7 = (0 : Int32) then (bnd (F_X7_fails o (3 : Int32) h6) fun r17 h16 => some (r17, h16)) else ((h6.2 o 4).bind fun q8 => (h6.2 o 2).bind fun q9 => ck (aIn shM q9 p0) (if (h6.1 q9 (p0).toNatClampNeg) = (0 : Int32) then (ck (aIn shM q8 (((60 : Int32) * p0) + p1)) (nm (pI h6 q8 ((((60 : Int32) * p0) + p1)).toNatClampNeg (p2).toInt8.toInt32) fun h14 => some ((1 : Int32), h14))) else ((h6.2 o 2).bind fun q10 => ck (aIn shM q10 p0) (if (h6.1 q10 (p0).toNatClampNeg) = (1 : Int32) then (ck (aIn shM q8 (((60 : Int32) * p0) + p1)) (nm (pI h6 q8 ((((60 : Int32) * p0) + p1)).toNatClampNeg (p2).toInt16.toInt32) fun h12 => some ((1 : Int32), h12))) else (ck (aIn shM q8 (((60 : Int32) * p0) + p1)) (nm (pI h6 q8 ((((60 : Int32) * p0) + p1)).toNatClampNeg p2) fun h11 => some ((1 : Int32), h11)))))))))))
def F_X7_reading_J23 (q3 : Nat) (x4 : Int32) (x5 : Int32) (x6 : Int32) (h7 : Hp) : Option (Int32 × Hp) :=
  bnd (F_X7_within x5 (0 : Int32) (7 : Int32) h7) fun r9 h8 => if r9 = (0 : Int32) then (some ((-2 : Int32), h8)) else (if (h8.1 q3 29) = (8 : Int32) then (some ((-4 : Int32), h8)) else ((h8.2 q3 30).bind fun q10 => ck (aIn shM q10 (h8.1 q3 29)) (nm (pI h8 q10 ((h8.1 q3 29)).toNatClampNeg x4) fun h11 => (h11.2 q3 31).bind fun q12 => ck (aIn shM q12 (h11.1 q3 29)) (nm (pI h11 q12 ((h11.1 q3 29)).toNatClampNeg x5) fun h13 => (h13.2 q3 32).bind fun q14 => ck (aIn shM q14 (h13.1 q3 29)) (nm (pI h13 q14 ((h13.1 q3 29)).toNatClampNeg x6) fun h15 => nm (pI h15 q3 29 ((h15.1 q3 29) + (1 : Int32))) fun h16 => some (((h16.1 q3 29) - (1 : Int32)), h16))))))
def F_X7_reading (o : Nat) (p0 : Int32) (p1 : Int32) (p2 : Int32) (h : Hp) : Option (Int32 × Hp) :=
  bnd (F_X7_isCheese o p0 h) fun r2 h1 => if r2 = (0 : Int32) then (some ((-1 : Int32), h1)) else (if p2 = (-9 : Int32) then (F_X7_reading_J23 o p0 p1 p2 h1) else (bnd (F_X7_isWord p2 h1) fun r20 h19 => if r20 = (0 : Int32) then (some ((-1 : Int32), h19)) else (F_X7_reading_J23 o p0 p1 p2 h19)))
def F_X7_sheet_L57 (q10 : Nat) (x11 : Int32) : Nat → Int32 → Hp → Option (Int32 × Hp)
  | 0, _, _ => none
  | N + 1, x12, h13 =>
  if (60 : Int32) ≤ x12 then (some ((1 : Int32), h13)) else ((h13.2 q10 4).bind fun q14 => ck (aIn shM q14 (((60 : Int32) * x11) + x12)) (nm (pI h13 q14 ((((60 : Int32) * x11) + x12)).toNatClampNeg (0 : Int32)) fun h15 => nm (x12 + (1 : Int32)) fun x16 => F_X7_sheet_L57 q10 x11 N x16 h15))
def F_X7_sheet (o : Nat) (p0 : Int32) (p1 : Int32) (p2 : Int32) (h : Hp) : Option (Int32 × Hp) :=
  nm (pI h o 0 (0 : Int32)) fun h1 => bnd (F_X7_isSheet p0 h1) fun r3 h2 => if r3 = (0 : Int32) then (some ((-1 : Int32), h2)) else (bnd (F_X7_isSort p1 h2) fun r5 h4 => if r5 = (0 : Int32) then (some ((-2 : Int32), h4)) else (if p2 ≤ (60 : Int32) then (if (0 : Int32) ≤ p2 then ((h4.2 o 2).bind fun q6 => ck (aIn shM q6 p0) (nm (pI h4 q6 (p0).toNatClampNeg p1) fun h7 => (h7.2 o 3).bind fun q8 => ck (aIn shM q8 p0) (nm (pI h7 q8 (p0).toNatClampNeg p2) fun h9 => F_X7_sheet_L57 o p0 FU (0 : Int32) h9))) else (bnd (F_X7_fails o (4 : Int32) h4) fun r19 h18 => some (r19, h18))) else (some ((-2 : Int32), h4))))
def F_X7_shelve (o : Nat) (p0 : Int32) (h : Hp) : Option (Int32 × Hp) :=
  if (-1 : Int32) ≤ p0 then (if (h.1 o 7) = (0 : Int32) then (some ((-3 : Int32), h)) else (bnd (F_X7_findShelves o h) fun r2 h1 => if p0 = (-1 : Int32) then (some (r2, h1)) else (bnd (F_X7_isCheese o p0 h1) fun r4 h3 => if r4 = (0 : Int32) then (some ((-9 : Int32), h3)) else ((h3.2 o 27).bind fun q5 => ck (aIn shM q5 p0) (some ((h3.1 q5 (p0).toNatClampNeg), h3)))))) else (some ((-1 : Int32), h))
def F_X7_spare (o : Nat) (p0 : Int32) (p1 : Int32) (p2 : Int32) (h : Hp) : Option (Int32 × Hp) :=
  if (-1 : Int32) ≤ p2 then (bnd (F_X7_within p0 (0 : Int32) (255 : Int32) h) fun r2 h1 => if r2 = (0 : Int32) then (some ((-2 : Int32), h1)) else (bnd (F_X7_within p1 (0 : Int32) (255 : Int32) h1) fun r4 h3 => if r4 = (0 : Int32) then (some ((-2 : Int32), h3)) else (if (h3.1 o 7) = (0 : Int32) then (some ((-3 : Int32), h3)) else (bnd (F_X7_findSpare o p0 p1 h3) fun r6 h5 => if p2 = (-1 : Int32) then (some (r6, h5)) else (if r6 = (-9 : Int32) then (some ((-9 : Int32), h5)) else (bnd (F_X7_isCheese o p2 h5) fun r8 h7 => if r8 = (0 : Int32) then (some ((-9 : Int32), h7)) else ((h7.2 o 27).bind fun q9 => ck (aIn shM q9 p2) (some ((h7.1 q9 (p2).toNatClampNeg), h7))))))))) else (some ((-1 : Int32), h))
def F_X7_tap_J26 (q4 : Nat) (x5 : Int32) (y6 : Int32) (y7 : Nat) (h8 : Hp) : Option (Int32 × Hp) :=
  bnd (F_X7_begins y7 y6 h8) fun _ h9 => (h9.2 q4 8).bind fun q10 => ck (aIn shM q10 x5) (if (h9.1 q10 (x5).toNatClampNeg) = (2 : Int32) then (some ((70 : Int32), h9)) else (some (x5, h9)))
def F_X7_tap (o : Nat) (p0 : Int32) (h : Hp) : Option (Int32 × Hp) :=
  bnd (F_X7_isCheese o p0 h) fun r2 h1 => if r2 = (0 : Int32) then (some ((-1 : Int32), h1)) else ((h1.2 o 8).bind fun q3 => ck (aIn shM q3 p0) (if (h1.1 q3 (p0).toNatClampNeg) = (2 : Int32) then (F_X7_tap_J26 o p0 (5 : Int32) o h1) else (F_X7_tap_J26 o p0 (4 : Int32) o h1)))
def F_X7_tell (o : Nat) (p0 : Int32) (h : Hp) : Option (Int32 × Hp) :=
  bnd (F_X7_isCheese o p0 h) fun r2 h1 => if r2 = (0 : Int32) then (some ((-1 : Int32), h1)) else ((h1.2 o 10).bind fun q3 => ck (aIn shM q3 p0) (nm (h1.1 q3 (p0).toNatClampNeg) fun x4 => (h1.2 o 8).bind fun q5 => ck (aIn shM q5 p0) (if (h1.1 q5 (p0).toNatClampNeg) = (1 : Int32) then (bnd (F_X7_begins o (2 : Int32) h1) fun _ h6 => bnd (F_X7_begins o (1 : Int32) h6) fun _ h7 => some ((x4 + (100 : Int32)), h7)) else (if (h1.1 q5 (p0).toNatClampNeg) = (2 : Int32) then (bnd (F_X7_begins o (3 : Int32) h1) fun _ h8 => bnd (F_X7_begins o (2 : Int32) h8) fun _ h9 => bnd (F_X7_begins o (1 : Int32) h9) fun _ h10 => bnd (F_X7_begins o (1 : Int32) h10) fun _ h11 => some ((((2 : Int32) * x4) + (100 : Int32)), h11)) else (bnd (F_X7_begins o (1 : Int32) h1) fun _ h12 => some (x4, h12))))))
def F_X7_trace (o : Nat) (h : Hp) : Option (Int32 × Hp) :=
  some ((h.1 o 1), h)
def F_X7_undo (o : Nat) (p0 : Int32) (h : Hp) : Option (Int32 × Hp) :=
  bnd (F_X7_within p0 (0 : Int32) (h.1 o 15) h) fun r2 h1 => if r2 = (0 : Int32) then (some ((-2 : Int32), h1)) else (nm (pI h1 o 15 ((h1.1 o 15) - p0)) fun h3 => some ((h3.1 o 15), h3))
def F_X7_wall_J26 (q3 : Nat) (x4 : Int32) (x5 : Int32) (h6 : Hp) : Option (Int32 × Hp) :=
  (h6.2 q3 11).bind fun q7 => ck (aIn shM q7 x4) (nm (h6.1 q7 (x4).toNatClampNeg) fun x8 => (h6.2 q3 11).bind fun q9 => ck (aIn shM q9 x4) (nm (pI h6 q9 (x4).toNatClampNeg x5) fun h10 => some (x8, h10)))
def F_X7_wall (o : Nat) (p0 : Int32) (p1 : Int32) (h : Hp) : Option (Int32 × Hp) :=
  bnd (F_X7_isCheese o p0 h) fun r2 h1 => if r2 = (0 : Int32) then (some ((-1 : Int32), h1)) else (if p1 = (-9 : Int32) then (F_X7_wall_J26 o p0 p1 h1) else (bnd (F_X7_isDay p1 h1) fun r12 h11 => if r12 = (0 : Int32) then (some ((-2 : Int32), h11)) else (F_X7_wall_J26 o p0 p1 h11)))
def F_X7_where (o : Nat) (p0 : Int32) (p1 : Int32) (h : Hp) : Option (Int32 × Hp) :=
  bnd (F_X7_isCheese o p0 h) fun r2 h1 => if r2 = (0 : Int32) then (some ((-1 : Int32), h1)) else (bnd (F_X7_isDay p1 h1) fun r4 h3 => if r4 = (0 : Int32) then (some ((-2 : Int32), h3)) else (bnd (F_X7_whereOf o p0 p1 h3) fun r6 h5 => some (r6, h5)))
def F_X7_words_L22 (q5 : Nat) (x6 : Int32) (x7 : Int32) : Nat → Int32 → Int32 → Hp → Option (Int32 × Hp)
  | 0, _, _, _ => none
  | N + 1, x8, x9, h10 =>
  if (8 : Int32) ≤ x9 then ((h10.2 q5 14).bind fun q11 => ck (aIn shM q11 x6) (nm (pI h10 q11 (x6).toNatClampNeg x7) fun h12 => some (x8, h12))) else ((h10.2 q5 14).bind fun q13 => ck (aIn shM q13 x6) (nm (pI h10 q13 (x6).toNatClampNeg x9) fun h14 => bnd (F_X7_areSo q5 h14) fun r16 h15 => if r16 = (0 : Int32) then (nm (x8 ||| (0 : Int32)) fun x17 => nm (x9 + (1 : Int32)) fun x18 => F_X7_words_L22 q5 x6 x7 N x17 x18 h15) else (nm (x8 ||| ((1 : Int32) <<< (x9 &&& 31))) fun x19 => nm (x9 + (1 : Int32)) fun x20 => F_X7_words_L22 q5 x6 x7 N x19 x20 h15)))
def F_X7_words (o : Nat) (p0 : Int32) (h : Hp) : Option (Int32 × Hp) :=
  bnd (F_X7_isTalk o p0 h) fun r2 h1 => if r2 = (0 : Int32) then (some ((-1 : Int32), h1)) else ((h1.2 o 14).bind fun q3 => ck (aIn shM q3 p0) (nm (h1.1 q3 (p0).toNatClampNeg) fun x4 => F_X7_words_L22 o p0 x4 FU (0 : Int32) (0 : Int32) h1))
