def DR (h : Hp) (d : Nat) : Prop :=
  h.2 d 3 = some (d + 1) ∧
  h.2 d 4 = some (d + 2) ∧
  h.2 d 5 = some (d + 3) ∧
  h.2 d 6 = some (d + 4) ∧
  h.2 d 7 = some (d + 5) ∧
  h.2 d 8 = some (d + 6) ∧
  h.2 d 9 = some (d + 7) ∧
  h.2 d 10 = some (d + 8) ∧
  h.2 d 11 = some (d + 12) ∧
  h.2 d 12 = some (d + 16) ∧
  h.2 d 13 = some (d + 21) ∧
  h.2 (d + 8) 0 = some (d + 9) ∧
  h.2 (d + 8) 1 = some (d + 10) ∧
  h.2 (d + 8) 2 = some (d + 11) ∧
  h.2 (d + 12) 0 = some (d + 13) ∧
  h.2 (d + 12) 1 = some (d + 14) ∧
  h.2 (d + 12) 2 = some (d + 15) ∧
  h.2 (d + 16) 0 = some (d + 17) ∧
  h.2 (d + 16) 1 = some (d + 18) ∧
  h.2 (d + 16) 2 = some (d + 19) ∧
  h.2 (d + 16) 3 = some (d + 20)
def SD (d : Nat) : Prop :=
  isO shC d 0 = true ∧
  shC[d + 1]? = some (1, 4) ∧
  shC[d + 2]? = some (1, 4) ∧
  shC[d + 3]? = some (1, 4) ∧
  shC[d + 4]? = some (1, 4) ∧
  shC[d + 5]? = some (1, 8) ∧
  shC[d + 6]? = some (1, 8) ∧
  shC[d + 7]? = some (1, 8) ∧
  isO shC (d + 8) 3 = true ∧
  shC[d + 9]? = some (1, 8) ∧
  shC[d + 10]? = some (1, 8) ∧
  shC[d + 11]? = some (1, 8) ∧
  isO shC (d + 12) 3 = true ∧
  shC[d + 13]? = some (1, 8) ∧
  shC[d + 14]? = some (1, 8) ∧
  shC[d + 15]? = some (1, 8) ∧
  shC[d + 16]? = some (3, 4) ∧
  shC[d + 17]? = some (1, 8) ∧
  shC[d + 18]? = some (1, 8) ∧
  shC[d + 19]? = some (1, 8) ∧
  shC[d + 20]? = some (1, 8) ∧
  shC[d + 21]? = some (1, 4)
def RC (h : Hp) (d w : Nat) : Prop :=
  h.2 0 0 = some 1 ∧
  h.2 0 1 = some 2 ∧
  h.2 0 2 = some 12 ∧
  h.2 0 3 = some 20 ∧
  h.2 1 0 = some 67 ∧
  h.2 1 1 = some 69 ∧
  h.2 1 2 = some 71 ∧
  h.2 1 3 = some 73 ∧
  h.2 2 0 = some 3 ∧
  h.2 2 2 = some 4 ∧
  h.2 2 3 = some 9 ∧
  h.2 2 4 = some 10 ∧
  h.2 2 5 = some 11 ∧
  h.2 4 0 = some 5 ∧
  h.2 4 1 = some 6 ∧
  h.2 4 2 = some 7 ∧
  h.2 4 3 = some 8 ∧
  h.2 12 0 = some 13 ∧
  h.2 12 2 = some 14 ∧
  h.2 12 3 = some 19 ∧
  h.2 14 0 = some 15 ∧
  h.2 14 1 = some 16 ∧
  h.2 14 2 = some 17 ∧
  h.2 14 3 = some 18 ∧
  h.2 67 0 = some 68 ∧
  h.2 69 0 = some 70 ∧
  h.2 71 0 = some 72 ∧
  h.2 73 0 = some 74 ∧
  h.2 0 4 = some d ∧
  h.2 0 5 = some (68 - d) ∧
  h.2 20 0 = some w ∧
  h.2 20 1 = some (43 - w) ∧
  DR h 23 ∧
  DR h 45
def RM (k : Hp) : Prop :=
  k.2 0 2 = some 1 ∧
  k.2 0 3 = some 2 ∧
  k.2 0 4 = some 3 ∧
  k.2 0 8 = some 4 ∧
  k.2 0 9 = some 5 ∧
  k.2 0 10 = some 6 ∧
  k.2 0 11 = some 7 ∧
  k.2 0 12 = some 8 ∧
  k.2 0 13 = some 9 ∧
  k.2 0 14 = some 10 ∧
  k.2 0 16 = some 11 ∧
  k.2 0 17 = some 12 ∧
  k.2 0 18 = some 13 ∧
  k.2 0 24 = some 14 ∧
  k.2 0 25 = some 15 ∧
  k.2 0 26 = some 16 ∧
  k.2 0 27 = some 17 ∧
  k.2 0 28 = some 18 ∧
  k.2 0 30 = some 19 ∧
  k.2 0 31 = some 20 ∧
  k.2 0 32 = some 21
theorem sO : isO shC 0 6 = true ∧
  isO shC 2 4 = true ∧
  isO shC 12 2 = true ∧
  isO shC 20 5 = true ∧
  isO shC 23 0 = true ∧
  isO shC 31 3 = true ∧
  isO shC 35 3 = true ∧
  isO shC 45 0 = true ∧
  isO shC 53 3 = true ∧
  isO shC 57 3 = true ∧
  isO shC 67 1 = true ∧
  isO shC 69 1 = true ∧
  isO shC 71 1 = true ∧
  isO shC 73 1 = true ∧
  isO shM 0 7 = true := ⟨by decide +kernel, by decide +kernel, by decide +kernel, by decide +kernel, by decide +kernel, by decide +kernel, by decide +kernel, by decide +kernel, by decide +kernel, by decide +kernel, by decide +kernel, by decide +kernel, by decide +kernel, by decide +kernel, by decide +kernel⟩
theorem sA : shC[1]? = some (2, 4) ∧
  shC[3]? = some (1, 4) ∧
  shC[4]? = some (3, 4) ∧
  shC[5]? = some (1, 9) ∧
  shC[6]? = some (1, 9) ∧
  shC[7]? = some (1, 9) ∧
  shC[8]? = some (1, 9) ∧
  shC[9]? = some (1, 4) ∧
  shC[10]? = some (1, 5) ∧
  shC[11]? = some (1, 4) ∧
  shC[13]? = some (1, 4) ∧
  shC[14]? = some (3, 4) ∧
  shC[15]? = some (1, 5) ∧
  shC[16]? = some (1, 5) ∧
  shC[17]? = some (1, 5) ∧
  shC[18]? = some (1, 5) ∧
  shC[19]? = some (1, 4) ∧
  shC[21]? = some (1, 4) ∧
  shC[22]? = some (1, 4) ∧
  shC[24]? = some (1, 4) ∧
  shC[25]? = some (1, 4) ∧
  shC[26]? = some (1, 4) ∧
  shC[27]? = some (1, 4) ∧
  shC[28]? = some (1, 8) ∧
  shC[29]? = some (1, 8) ∧
  shC[30]? = some (1, 8) ∧
  shC[32]? = some (1, 8) ∧
  shC[33]? = some (1, 8) ∧
  shC[34]? = some (1, 8) ∧
  shC[36]? = some (1, 8) ∧
  shC[37]? = some (1, 8) ∧
  shC[38]? = some (1, 8) ∧
  shC[39]? = some (3, 4) ∧
  shC[40]? = some (1, 8) ∧
  shC[41]? = some (1, 8) ∧
  shC[42]? = some (1, 8) ∧
  shC[43]? = some (1, 8) ∧
  shC[44]? = some (1, 4) ∧
  shC[46]? = some (1, 4) ∧
  shC[47]? = some (1, 4) ∧
  shC[48]? = some (1, 4) ∧
  shC[49]? = some (1, 4) ∧
  shC[50]? = some (1, 8) ∧
  shC[51]? = some (1, 8) ∧
  shC[52]? = some (1, 8) ∧
  shC[54]? = some (1, 8) ∧
  shC[55]? = some (1, 8) ∧
  shC[56]? = some (1, 8) ∧
  shC[58]? = some (1, 8) ∧
  shC[59]? = some (1, 8) ∧
  shC[60]? = some (1, 8) ∧
  shC[61]? = some (3, 4) ∧
  shC[62]? = some (1, 8) ∧
  shC[63]? = some (1, 8) ∧
  shC[64]? = some (1, 8) ∧
  shC[65]? = some (1, 8) ∧
  shC[66]? = some (1, 4) ∧
  shC[68]? = some (1, 60) ∧
  shC[70]? = some (1, 60) ∧
  shC[72]? = some (1, 60) ∧
  shC[74]? = some (1, 60) := ⟨by decide +kernel, by decide +kernel, by decide +kernel, by decide +kernel, by decide +kernel, by decide +kernel, by decide +kernel, by decide +kernel, by decide +kernel, by decide +kernel, by decide +kernel, by decide +kernel, by decide +kernel, by decide +kernel, by decide +kernel, by decide +kernel, by decide +kernel, by decide +kernel, by decide +kernel, by decide +kernel, by decide +kernel, by decide +kernel, by decide +kernel, by decide +kernel, by decide +kernel, by decide +kernel, by decide +kernel, by decide +kernel, by decide +kernel, by decide +kernel, by decide +kernel, by decide +kernel, by decide +kernel, by decide +kernel, by decide +kernel, by decide +kernel, by decide +kernel, by decide +kernel, by decide +kernel, by decide +kernel, by decide +kernel, by decide +kernel, by decide +kernel, by decide +kernel, by decide +kernel, by decide +kernel, by decide +kernel, by decide +kernel, by decide +kernel, by decide +kernel, by decide +kernel, by decide +kernel, by decide +kernel, by decide +kernel, by decide +kernel, by decide +kernel, by decide +kernel, by decide +kernel, by decide +kernel, by decide +kernel, by decide +kernel⟩
theorem sM : shM[1]? = some (1, 4) ∧
  shM[2]? = some (1, 4) ∧
  shM[3]? = some (1, 240) ∧
  shM[4]? = some (1, 4) ∧
  shM[5]? = some (1, 4) ∧
  shM[6]? = some (1, 4) ∧
  shM[7]? = some (1, 4) ∧
  shM[8]? = some (1, 8) ∧
  shM[9]? = some (1, 8) ∧
  shM[10]? = some (1, 8) ∧
  shM[11]? = some (1, 8) ∧
  shM[12]? = some (1, 8) ∧
  shM[13]? = some (1, 8) ∧
  shM[14]? = some (1, 12) ∧
  shM[15]? = some (1, 24) ∧
  shM[16]? = some (1, 4) ∧
  shM[17]? = some (1, 4) ∧
  shM[18]? = some (1, 4) ∧
  shM[19]? = some (1, 8) ∧
  shM[20]? = some (1, 8) ∧
  shM[21]? = some (1, 8) := ⟨by decide +kernel, by decide +kernel, by decide +kernel, by decide +kernel, by decide +kernel, by decide +kernel, by decide +kernel, by decide +kernel, by decide +kernel, by decide +kernel, by decide +kernel, by decide +kernel, by decide +kernel, by decide +kernel, by decide +kernel, by decide +kernel, by decide +kernel, by decide +kernel, by decide +kernel, by decide +kernel, by decide +kernel⟩
theorem SD_of {d : Nat} (h : d = 23 ∨ d = 45) : SD d := by
  rcases h with rfl | rfl
  · exact ⟨by decide +kernel, by decide +kernel, by decide +kernel, by decide +kernel, by decide +kernel, by decide +kernel, by decide +kernel, by decide +kernel, by decide +kernel, by decide +kernel, by decide +kernel, by decide +kernel, by decide +kernel, by decide +kernel, by decide +kernel, by decide +kernel, by decide +kernel, by decide +kernel, by decide +kernel, by decide +kernel, by decide +kernel, by decide +kernel⟩
  · exact ⟨by decide +kernel, by decide +kernel, by decide +kernel, by decide +kernel, by decide +kernel, by decide +kernel, by decide +kernel, by decide +kernel, by decide +kernel, by decide +kernel, by decide +kernel, by decide +kernel, by decide +kernel, by decide +kernel, by decide +kernel, by decide +kernel, by decide +kernel, by decide +kernel, by decide +kernel, by decide +kernel, by decide +kernel, by decide +kernel⟩
theorem RC.dr {h : Hp} {d w : Nat} (hd : d = 23 ∨ d = 45) (hR : RC h d w) : DR h d := by
  obtain ⟨-, -, -, -, -, -, -, -, -, -, -, -, -, -, -, -, -, -, -, -, -, -, -, -, -, -, -, -, -, -, -, -, h1, h2⟩ := hR
  rcases hd with rfl | rfl
  · exact h1
  · exact h2
theorem DR0 : DR hC0 23 ∧ DR hC0 45 := ⟨⟨by decide +kernel, by decide +kernel, by decide +kernel, by decide +kernel, by decide +kernel, by decide +kernel, by decide +kernel, by decide +kernel, by decide +kernel, by decide +kernel, by decide +kernel, by decide +kernel, by decide +kernel, by decide +kernel, by decide +kernel, by decide +kernel, by decide +kernel, by decide +kernel, by decide +kernel, by decide +kernel, by decide +kernel⟩, ⟨by decide +kernel, by decide +kernel, by decide +kernel, by decide +kernel, by decide +kernel, by decide +kernel, by decide +kernel, by decide +kernel, by decide +kernel, by decide +kernel, by decide +kernel, by decide +kernel, by decide +kernel, by decide +kernel, by decide +kernel, by decide +kernel, by decide +kernel, by decide +kernel, by decide +kernel, by decide +kernel, by decide +kernel⟩⟩
theorem RC0 : RC hC0 23 21 := ⟨by decide +kernel, by decide +kernel, by decide +kernel, by decide +kernel, by decide +kernel, by decide +kernel, by decide +kernel, by decide +kernel, by decide +kernel, by decide +kernel, by decide +kernel, by decide +kernel, by decide +kernel, by decide +kernel, by decide +kernel, by decide +kernel, by decide +kernel, by decide +kernel, by decide +kernel, by decide +kernel, by decide +kernel, by decide +kernel, by decide +kernel, by decide +kernel, by decide +kernel, by decide +kernel, by decide +kernel, by decide +kernel, by decide +kernel, by decide +kernel, by decide +kernel, by decide +kernel, DR0⟩
theorem RM0 : RM hM0 := ⟨by decide +kernel, by decide +kernel, by decide +kernel, by decide +kernel, by decide +kernel, by decide +kernel, by decide +kernel, by decide +kernel, by decide +kernel, by decide +kernel, by decide +kernel, by decide +kernel, by decide +kernel, by decide +kernel, by decide +kernel, by decide +kernel, by decide +kernel, by decide +kernel, by decide +kernel, by decide +kernel, by decide +kernel⟩
/-! small rows -/
theorem gO_s {β : Type} {sh : Sh} {q ci : Nat} {k : Nat → Option β} : gO sh (some q) ci k = ck (isO sh q ci) (k q) := True.rec (motive := fun _ => gO sh (some q) ci k = ck (isO sh q ci) (k q)) rfl trivial
theorem ck_t {β : Type} {o : Option β} : ck true o = o := True.rec (motive := fun _ => ck true o = o) rfl trivial
theorem nm_x {α β : Type} {v : α} {k : α → Option β} : nm v k = k v := True.rec (motive := fun _ => nm v k = k v) rfl trivial
theorem ob_s {α β : Type} {a : α} {k : α → Option β} : (some a).bind k = k a := True.rec (motive := fun _ => (some a).bind k = k a) rfl trivial
theorem bnd_s {α β : Type} {r : α} {h : Hp} {k : α → Hp → Option β} : bnd (some (r, h)) k = k r h := True.rec (motive := fun _ => bnd (some (r, h)) k = k r h) rfl trivial
theorem pI_1 {h : Hp} {q j a b : Nat} {v : Int32} : (pI h q j v).1 a b = if a = q ∧ b = j then v else h.1 a b := rfl
theorem pI_2 {h : Hp} {q j : Nat} {v : Int32} : (pI h q j v).2 = h.2 := rfl
theorem pR_1 {h : Hp} {q j : Nat} {v : Option Nat} : (pR h q j v).1 = h.1 := rfl
theorem pR_2 {h : Hp} {q j a b : Nat} {v : Option Nat} : (pR h q j v).2 a b = if a = q ∧ b = j then v else h.2 a b := rfl
theorem aIn_i {sh : Sh} {q n i : Nat} (h : sh[q]? = some (1, n)) (hi : i < n) (hn : n < 2 ^ 31) : aIn sh q (nI i) = true := by
  unfold aIn
  rw [h]
  simp [nI_pos (show i < 2 ^ 31 by omega), nI_clamp (show i < 2 ^ 31 by omega), hi]
theorem aRn_i {sh : Sh} {kd q n i : Nat} (h : sh[q]? = some (kd, n)) (hi : i < n) (hn : n < 2 ^ 31) : aRn sh kd q (nI i) = true := by
  unfold aRn
  rw [h]
  simp [nI_pos (show i < 2 ^ 31 by omega), nI_clamp (show i < 2 ^ 31 by omega), hi]
theorem cl_i {i : Nat} (h : i < 2 ^ 31) : (nI i).toNatClampNeg = i := nI_clamp h
/-- the dairy that lies at d -/
abbrev Dv : Type := Nat → Nat → Int32
def dv (h : Hp) (d : Nat) : Dv := fun q j => if q < 21 then h.1 (d + q) j else 0
/-- what of the reference's memory tells of the dairy; what tells of the sheets, in both -/
def kd (k : Hp) : Dv := fun q j => if (q = 0 ∧ (j = 5 ∨ j = 6 ∨ j = 7 ∨ j = 15 ∨ j = 19 ∨ j = 29)) ∨ (4 ≤ q ∧ q ≤ 13) ∨ (19 ≤ q ∧ q ≤ 21) then k.1 q j else 0
def hs (h : Hp) : Dv := fun q j => if 67 ≤ q then h.1 q j else 0
def ks (k : Hp) : Dv := fun q j => if 1 ≤ q ∧ q ≤ 3 then k.1 q j else 0
/-- where moves carry a cheese: n moves from number i on, the latest day and the cellar so far -/
def carL (a : Dv) (k t : Int32) : Nat → Nat → Int32 → Int32 → Int32
  | 0, _, _, c => c
  | n + 1, i, l, c => if a 9 i = k then (if t < a 10 i then carL a k t n (i + 1) l c else if a 10 i < l then carL a k t n (i + 1) l c else carL a k t n (i + 1) (a 10 i) (a 11 i)) else carL a k t n (i + 1) l c
def car (a : Dv) (M : Nat) (k t : Int32) : Int32 := carL a k t M 0 0 (-9)
def okC (a : Dv) (m : Dv) (C i : Nat) : Prop := (∃ x, x < 3 ∧ a 1 i = nI x) ∧ (∃ x, x < C ∧ a 2 i = nI x) ∧ (∃ x, x < 10 ∧ a 3 i = nI x) ∧ (a 4 i = -9 ∨ ∃ x, x < 8 ∧ a 4 i = nI x) ∧ m 4 i = a 1 i ∧ m 5 i = a 2 i ∧ m 6 i = a 3 i ∧ m 7 i = a 4 i
def okT (a : Dv) (m : Dv) (C t : Nat) : Prop := (∃ x, x < C ∧ a 5 t = nI x) ∧ (∃ x, 0 < x ∧ x < 10 ∧ a 6 t = nI x) ∧ (∃ x, x < 8 ∧ a 7 t = nI x) ∧ m 8 t = a 5 t ∧ m 9 t = a 6 t ∧ m 10 t = a 7 t
def okM (a : Dv) (m : Dv) (C K i : Nat) : Prop := (∃ x, x < K ∧ a 9 i = nI x) ∧ (∃ x, x < 8 ∧ a 10 i = nI x) ∧ (∃ x, x < C ∧ a 11 i = nI x) ∧ m 11 i = a 9 i ∧ m 12 i = a 10 i ∧ m 13 i = a 11 i
def okR (a : Dv) (m : Dv) (K i : Nat) : Prop := (∃ x, x < K ∧ a 13 i = nI x) ∧ (∃ x, x < 8 ∧ a 14 i = nI x) ∧ (a 15 i = -9 ∨ ∃ x, x < 8 ∧ a 15 i = nI x) ∧ m 19 i = a 13 i ∧ m 20 i = a 14 i ∧ m 21 i = a 15 i
/-- the class's dairy a and the reference's memory k are of C cellars, K cheeses, T talks, M moves, R readings, and tell the same -/
def Dy (a : Dv) (m : Dv) (C K T M R : Nat) : Prop :=
  (a 0 0 = nI C ∧ a 0 1 = nI K ∧ a 0 2 = nI T ∧ a 8 3 = nI M ∧ a 12 3 = nI R) ∧ (C ≤ 5 ∧ K ≤ 4 ∧ T ≤ 8 ∧ M ≤ 8 ∧ R ≤ 8) ∧
  (m 0 5 = nI C ∧ m 0 6 = nI K ∧ m 0 7 = nI T ∧ m 0 15 = nI M ∧ m 0 29 = nI R ∧ m 0 19 = 0) ∧
  (∀ i, i < K → okC a m C i) ∧ (∀ t, t < T → okT a m C t) ∧ (∀ i, i < M → okM a m C K i) ∧ (∀ i, i < R → okR a m K i) ∧ (∀ i, i < K → ∀ t, t < 8 → a (17 + i) t = car a M (nI i) (nI t))
/-- sheet i of both -/
def Sht (g m : Dv) (i : Nat) : Prop :=
  (∃ x, x < 3 ∧ g (67 + 2 * i) 1 = nI x) ∧ ((g (67 + 2 * i) 2 = -9 ∧ m 1 i = -9) ∨ ∃ n, n ≤ 60 ∧ g (67 + 2 * i) 2 = nI n ∧ m 2 i = nI n ∧ m 1 i = g (67 + 2 * i) 1) ∧
  ∀ j, j < 60 → m 3 (60 * i + j) = g (68 + 2 * i) j
def In0 (h k : Hp) (d w C K T M R : Nat) : Prop := (d = 23 ∨ d = 45) ∧ (w = 21 ∨ w = 22) ∧ RC h d w ∧ RM k ∧ (k.1 0 0 = h.1 0 7 ∧ k.1 0 1 = h.1 0 6) ∧ (∀ i, i < 4 → Sht (hs h) (ks k) i) ∧ Dy (dv h d) (kd k) C K T M R
def Inv (h k : Hp) : Prop := ∃ d w C K T M R, In0 h k d w C K T M R
theorem inv_0 : Inv hC0 hM0 := by
  refine ⟨23, 21, 0, 0, 0, 0, 0, Or.inl rfl, Or.inl rfl, RC0, RM0, by decide +kernel, ?_, by decide +kernel, by decide, by decide +kernel, ?_⟩
  · intro i hi
    refine ⟨⟨0, by decide, ?_⟩, Or.inl ⟨?_, ?_⟩, ?_⟩
    · have : ∀ i, i < 4 → hs hC0 (67 + 2 * i) 1 = nI 0 := by decide +kernel
      exact this i hi
    · have : ∀ i, i < 4 → hs hC0 (67 + 2 * i) 2 = -9 := by decide +kernel
      exact this i hi
    · have : ∀ i, i < 4 → ks hM0 1 i = -9 := by decide +kernel
      exact this i hi
    · have : ∀ i, i < 4 → ∀ j, j < 60 → ks hM0 3 (60 * i + j) = hs hC0 (68 + 2 * i) j := by decide +kernel
      exact this i hi
  · exact ⟨fun i h => absurd h (by omega), fun i h => absurd h (by omega), fun i h => absurd h (by omega), fun i h => absurd h (by omega), fun i h => absurd h (by omega)⟩
