theorem pI_pI {h : Hp} {q j : Nat} {a b : Int32} : pI (pI h q j a) q j b = pI h q j b := by
  refine Prod.ext ?_ rfl
  funext x y
  rw [pI_1, pI_1, pI_1]
  split <;> rfl
theorem pI_same {h : Hp} {q j : Nat} {v : Int32} (e : h.1 q j = v) : pI h q j v = h := by
  refine Prod.ext ?_ rfl
  funext x y
  rw [pI_1]
  split
  · next c => rw [c.1, c.2, e]
  · rfl
theorem hsX_c {h h' : Hp} {d : Nat} (e : ∀ q, q < 21 → h'.1 (d + q) = h.1 (d + q)) {i T : Nat} (hi : i < 4) (sv : Int32) : hsX h' d i T sv = hsX h d i T sv := by
  have hc : catX h' d i sv = catX h d i sv := by
    funext t
    unfold catX celV
    rw [e 1 (by decide), e 2 (by decide), e 3 (by decide), e 4 (by decide), e 5 (by decide), e 6 (by decide), e (17 + i) (by omega)]
  unfold hsX
  rw [hc, e 1 (by decide)]
theorem Hn_c {h h' : Hp} {d : Nat} (e : ∀ q, q < 21 → h'.1 (d + q) = h.1 (d + q)) {i T : Nat} (hi : i < 4) : Hn h' d T i = Hn h d T i := by
  unfold Hn
  rw [hsX_c e hi]
/-- what a reading finds -/
def rdV (h : Hp) (d T r : Nat) : Int32 := if atL (lys (Hn h d T (h.1 (d + 13) r).toNatClampNeg) T) (h.1 (d + 14) r).toNatClampNeg = -9 then -9 else h.1 (d + 7) (atL (lys (Hn h d T (h.1 (d + 13) r).toNatClampNeg) T) (h.1 (d + 14) r).toNatClampNeg).toNatClampNeg
def soL (f g : Nat → Int32) : Nat → Nat → Int32
  | 0, _ => 1
  | n + 1, r => if f r = g r then soL f g n (r + 1) else 0
def soX (h : Hp) (d T R : Nat) : Int32 := soL (rdV h d T) (h.1 (d + 15)) R 0
theorem soL_c {f f' g : Nat → Int32} : ∀ n r, (∀ x, r ≤ x → x < r + n → f x = f' x) → soL f g n r = soL f' g n r := by
  intro n
  induction n with
  | zero => intro r _; rfl
  | succ n ih =>
    intro r h
    rw [soL, soL, h r (Nat.le_refl _) (by omega), ih (r + 1) (fun x h1 h2 => h x (by omega) (by omega))]
theorem soL_b {f g : Nat → Int32} : ∀ n r, soL f g n r = 0 ∨ soL f g n r = 1 := by
  intro n
  induction n with
  | zero => intro r; exact Or.inr rfl
  | succ n ih =>
    intro r
    rw [soL]
    split
    · exact ih _
    · exact Or.inl rfl
/-- the row of heard talks filled for the cheeses below x -/
def pHT (h : Hp) (d T x : Nat) : Hp := (fun q j => if q = d + 21 ∧ j < x then hsX h d j T (-9) else h.1 q j, h.2)
theorem pHT_1 {h : Hp} {d T x q j : Nat} : (pHT h d T x).1 q j = if q = d + 21 ∧ j < x then hsX h d j T (-9) else h.1 q j := rfl
theorem pHT_off {h : Hp} {d T x q : Nat} (hq : q ≠ d + 21) : (pHT h d T x).1 q = h.1 q := by
  funext j
  rw [pHT_1, if_neg (fun z => hq z.1)]
theorem pHT_0 {h : Hp} {d T : Nat} : pHT h d T 0 = h := by
  refine Prod.ext ?_ rfl
  funext q j
  rw [pHT_1, if_neg (by omega)]
theorem pHT_s {h : Hp} {d T x : Nat} : pI (pHT h d T x) (d + 21) x (hsX h d x T (-9)) = pHT h d T (x + 1) := by
  refine Prod.ext ?_ rfl
  funext q j
  rw [pI_1, pHT_1, pHT_1]
  by_cases e : q = d + 21 ∧ j = x
  · rw [if_pos e, if_pos (by omega), e.2]
  · rw [if_neg e]
    by_cases e2 : q = d + 21 ∧ j < x
    · rw [if_pos e2, if_pos (by omega)]
    · rw [if_neg e2, if_neg (by omega)]
/-- all but the row of heard talks as before -/
theorem In0.scr {h h' k : Hp} {d w C K T M R : Nat} (I : In0 h k d w C K T M R) (e1 : h'.2 = h.2) (e2 : ∀ q, q ≠ d + 21 → h'.1 q = h.1 q) : In0 h' k d w C K T M R := by
  have hd : d + 21 ≤ 66 ∧ 22 < d := by rcases I.1 with rfl | rfl <;> decide
  refine I.frame e1 rfl ?_ ?_ ?_ rfl ?_ rfl
  · rw [e2 0 (by omega)]
    exact I.2.2.2.2.1.1
  · rw [e2 0 (by omega)]
    exact I.2.2.2.2.1.2
  · funext q j
    unfold hs
    split
    · rw [e2 q (by omega)]
    · rfl
  · funext q j
    unfold dv
    split
    · rw [e2 (d + q) (by omega)]
    · rfl
theorem so_1 {h k : Hp} {d w C K T M R : Nat} (I : In0 h k d w C K T M R) (kk : Hp → Option (Int32 × Hp)) : ∀ (N x : Nat), x ≤ K → K + 1 ≤ x + N → F_X0_readingsAreSo_L2 kk d N (nI x) (pHT h d T x) = kk (pHT h d T K) := by
  have hS := SD_of I.1
  have hD := I.2.2.1.dr I.1
  have r13 : h.2 d 13 = some (d + 21) := by unfold DR at hD; simp only [hD]
  have s21 : shC[d + 21]? = some (1, 4) := by unfold SD at hS; simp only [hS]
  obtain ⟨k1, -, k3⟩ := I.K
  intro N
  induction N with
  | zero => intro x h1 h2; omega
  | succ N ih =>
    intro x h1 h2
    have I2 : In0 (pHT h d T x) k d w C K T M R := I.scr rfl (fun q hq => pHT_off hq)
    have kx : (pHT h d T x).1 d 1 = nI K := by rw [pHT_off (by omega)]; exact k1
    rw [F_X0_readingsAreSo_L2, kx]
    by_cases e : x = K
    · subst e
      rw [if_pos (Int32.le_refl _)]
    · have e2 : (pHT h d T x).2 = h.2 := rfl
      have ht := I2.talks (show x < K by omega)
      rw [hsX_c (fun q hq => pHT_off (by omega)) (show x < 4 by omega)] at ht
      rw [if_neg (nI_ge (show x < K by omega) (by omega))]
      simp only [e2, r13, ob_s, ht, bnd_s, aIn_i s21 (show x < 4 by omega) (by decide), ck_t, nm_x, cl_i (show x < 2 ^ 31 by omega), pHT_s, nI_1]
      exact ih (x + 1) (by omega) (by omega)
theorem so_2 {h k : Hp} {d w C K T M R : Nat} (I : In0 h k d w C K T M R) : ∀ (N r : Nat), r ≤ R → R + 1 ≤ r + N → F_X0_readingsAreSo_L31 d N (nI r) (pHT h d T K) = some (soL (rdV h d T) (h.1 (d + 15)) (R - r) r, pHT h d T K) := by
  have hS := SD_of I.1
  have hD := I.2.2.1.dr I.1
  unfold DR at hD
  unfold SD at hS
  have s21 : shC[d + 21]? = some (1, 4) := by simp only [hS]
  obtain ⟨r1, -, r3⟩ := I.R
  obtain ⟨t1, -, t3⟩ := I.T
  have hK := I.K.2.2
  have hd : ∀ q, q < 21 → (pHT h d T K).1 (d + q) = h.1 (d + q) := fun q hq => pHT_off (by omega)
  have e2 : (pHT h d T K).2 = h.2 := rfl
  have rx : (pHT h d T K).1 (d + 12) 3 = nI R := by rw [hd 12 (by decide)]; exact r1
  have tx : (pHT h d T K).1 d 2 = nI T := by
    have := hd 0 (by decide)
    rw [Nat.add_zero] at this
    rw [this]
    exact t1
  intro N
  induction N with
  | zero => intro r h1 h2; omega
  | succ N ih =>
    intro r h1 h2
    rw [F_X0_readingsAreSo_L31]
    simp only [e2, hD, gO_s, hS, ck_t, rx]
    by_cases e : r = R
    · subst e
      rw [if_pos (Int32.le_refl _), Nat.sub_self]
      rfl
    · rw [if_neg (nI_ge (show r < R by omega) (by omega)), show R - r = (R - (r + 1)) + 1 by omega, soL]
      obtain ⟨⟨x, hx, ex⟩, ⟨l, hl, el⟩, -, -, -, -⟩ := I.reading (show r < R by omega)
      have a13 := aIn_i (show shC[d + 13]? = some (1, 8) by simp only [hS]) (show r < 8 by omega) (by decide)
      have a14 := aIn_i (show shC[d + 14]? = some (1, 8) by simp only [hS]) (show r < 8 by omega) (by decide)
      have a15 := aIn_i (show shC[d + 15]? = some (1, 8) by simp only [hS]) (show r < 8 by omega) (by decide)
      have a21 := aIn_i s21 (show x < 4 by omega) (by decide)
      obtain ⟨g1, g2, g3, -⟩ := I.hn hx
      have hht : (pHT h d T K).1 (d + 21) x = nI (Hn h d T x) := by
        rw [pHT_1, if_pos ⟨rfl, hx⟩]
        have := I.talks hx
        rw [g3] at this
        exact (congrArg Prod.fst (Option.some.inj this)).symm
      have hta := talkAt_x (h := pHT h d T K) (d := d) tx t3 g2 (show l < 2 ^ 31 by omega)
      unfold F_X0_readingsAreSo_J87
      simp only [ob_s, a13, ck_t, cl_i (show r < 2 ^ 31 by omega), hd 13 (by decide), ex, a21, gO_s, hS, hD, e2, a14, hd 14 (by decide), el, cl_i (show x < 2 ^ 31 by omega), hht, hta, bnd_s, a15, hd 15 (by decide), nm_x, nI_1, hd 7 (by decide)]
      have hrd : rdV h d T r = if atL (lys (Hn h d T x) T) l = -9 then -9 else h.1 (d + 7) (atL (lys (Hn h d T x) T) l).toNatClampNeg := by
        unfold rdV
        rw [ex, el, cl_i (show x < 2 ^ 31 by omega), cl_i (show l < 2 ^ 31 by omega)]
      rw [hrd]
      by_cases c1 : atL (lys (Hn h d T x) T) l = -9
      · simp only [if_pos c1]
        by_cases c2 : -9 = h.1 (d + 15) r
        · rw [if_pos c2, if_pos c2]
          exact ih (r + 1) (by omega) (by omega)
        · rw [if_neg c2, if_neg c2]
      · have hlt : l < (lys (Hn h d T x) T).length := by
          rcases Nat.lt_or_ge l (lys (Hn h d T x) T).length with q | q
          · exact q
          · exfalso
            apply c1
            unfold atL
            rw [List.getElem?_eq_none q]
        have ht : (lys (Hn h d T x) T)[l] < T := lys_lt (List.getElem_mem hlt)
        have a7 := aIn_i (show shC[d + 7]? = some (1, 8) by simp only [hS]) (show (lys (Hn h d T x) T)[l] < 8 by omega) (by decide)
        have c1' : ¬ nI (lys (Hn h d T x) T)[l] = -9 := nIne9 (by omega)
        simp only [atL_in hlt, if_neg c1', a7, ck_t, cl_i (show (lys (Hn h d T x) T)[l] < 2 ^ 31 by omega)]
        split
        · exact ih (r + 1) (by omega) (by omega)
        · rfl
theorem so_x {h k : Hp} {d w C K T M R : Nat} (I : In0 h k d w C K T M R) : F_X0_readingsAreSo d h = some (soX h d T R, pHT h d T K) := by
  have hK := I.K.2.2
  have hR8 := I.R.2.2
  unfold F_X0_readingsAreSo soX
  have h1 := so_1 I (fun h10 => F_X0_readingsAreSo_L31 d FU (0 : Int32) h10) FU 0 (by omega) (by unfold FU; omega)
  have h2 := so_2 I FU 0 (by omega) (by unfold FU; omega)
  rw [pHT_0, nI_0] at h1
  rw [nI_0] at h2
  rw [h1, h2]
  rfl
theorem so_m {h k : Hp} {d w C K T M R : Nat} (I : In0 h k d w C K T M R) : ∀ (N r : Nat), r ≤ R → R + 1 ≤ r + N → F_X7_areSo_L2 0 N (nI r) k = some (soL (rdV h d T) (h.1 (d + 15)) (R - r) r, k) := by
  have hM := I.2.2.2.1
  unfold RM at hM
  obtain ⟨-, r2, r3⟩ := I.R
  obtain ⟨-, t2, t3⟩ := I.T
  have hK := I.K.2.2
  intro N
  induction N with
  | zero => intro r h1 h2; omega
  | succ N ih =>
    intro r h1 h2
    rw [F_X7_areSo_L2, r2]
    by_cases e : r = R
    · subst e
      rw [if_pos (Int32.le_refl _), Nat.sub_self]
      rfl
    · rw [if_neg (nI_ge (show r < R by omega) (by omega)), show R - r = (R - (r + 1)) + 1 by omega, soL]
      obtain ⟨⟨x, hx, ex⟩, ⟨l, hl, el⟩, -, f1, f2, f3⟩ := I.reading (show r < R by omega)
      have b19 := aIn_i (sh := shM) (q := 19) (n := 8) (by decide +kernel) (show r < 8 by omega) (by decide)
      have b20 := aIn_i (sh := shM) (q := 20) (n := 8) (by decide +kernel) (show r < 8 by omega) (by decide)
      have b21 := aIn_i (sh := shM) (q := 21) (n := 8) (by decide +kernel) (show r < 8 by omega) (by decide)
      obtain ⟨g1, g2, -, g4⟩ := I.hn hx
      unfold F_X7_areSo_J48
      simp only [hM, ob_s, b19, b20, b21, ck_t, cl_i (show r < 2 ^ 31 by omega), f1, f2, f3, ex, el, g4, bnd_s, layerOf_x t2 t3 g2 (show l < 2 ^ 31 by omega), nm_x, nI_1]
      have hrd : rdV h d T r = if atL (lys (Hn h d T x) T) l = -9 then -9 else h.1 (d + 7) (atL (lys (Hn h d T x) T) l).toNatClampNeg := by
        unfold rdV
        rw [ex, el, cl_i (show x < 2 ^ 31 by omega), cl_i (show l < 2 ^ 31 by omega)]
      rw [hrd]
      by_cases c1 : atL (lys (Hn h d T x) T) l = -9
      · simp only [if_pos c1]
        by_cases c2 : -9 = h.1 (d + 15) r
        · rw [if_pos c2, if_pos c2]
          exact ih (r + 1) (by omega) (by omega)
        · rw [if_neg c2, if_neg c2]
      · have hlt : l < (lys (Hn h d T x) T).length := by
          rcases Nat.lt_or_ge l (lys (Hn h d T x) T).length with q | q
          · exact q
          · exfalso
            apply c1
            unfold atL
            rw [List.getElem?_eq_none q]
        have ht : (lys (Hn h d T x) T)[l] < T := lys_lt (List.getElem_mem hlt)
        have b10 := aIn_i sM.2.2.2.2.2.2.2.2.2.1 (show (lys (Hn h d T x) T)[l] < 8 by omega) (by decide)
        have hw : k.1 10 (lys (Hn h d T x) T)[l] = h.1 (d + 7) (lys (Hn h d T x) T)[l] := (I.talk ht).2.2.2.2.2
        have c1' : ¬ nI (lys (Hn h d T x) T)[l] = -9 := nIne9 (by omega)
        simp only [atL_in hlt, if_neg c1', b10, ck_t, cl_i (show (lys (Hn h d T x) T)[l] < 2 ^ 31 by omega), hw]
        split
        · exact ih (r + 1) (by omega) (by omega)
        · rfl
theorem so_mx {h k : Hp} {d w C K T M R : Nat} (I : In0 h k d w C K T M R) : F_X7_areSo 0 k = some (soX h d T R, k) := by
  have hR8 := I.R.2.2
  unfold F_X7_areSo soX
  have h2 := so_m I FU 0 (by omega) (by unfold FU; omega)
  rw [nI_0] at h2
  exact h2
