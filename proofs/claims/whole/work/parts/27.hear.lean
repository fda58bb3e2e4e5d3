/-! what is heard -/
def catV (ki th tu sd ce lo : Int32) (t : Nat) : Bool := (decide (tu = -9) || decide (nI t < tu)) && !decide (lo - 2 * mA (sd - ce) < (if ki = 1 then th + 1 else mX th 1))
def hL (cat : Nat → Bool) (mi : Bool) : Nat → Nat → Int32 → Bool → Int32
  | 0, _, s, _ => s
  | n + 1, t, s, sp => if cat t then hL cat mi n (t + 1) (if mi && !sp then s else s ||| (1 <<< (nI t &&& 31))) (!sp) else hL cat mi n (t + 1) s sp
def b2i (b : Bool) : Int32 := if b then 1 else 0
theorem b2i_0 (b : Bool) : (b2i b = 0) = (b = false) := by cases b <;> decide
theorem hL_c {cat cat' : Nat → Bool} {mi : Bool} : ∀ n t s sp, (∀ x, t ≤ x → x < t + n → cat x = cat' x) → hL cat mi n t s sp = hL cat' mi n t s sp := by
  intro n
  induction n with
  | zero => intro t s sp _; rfl
  | succ n ih =>
    intro t s sp hc
    rw [hL, hL, hc t (Nat.le_refl _) (by omega)]
    have h2 := fun s sp => ih (t + 1) s sp (fun x h1 h2 => hc x (by omega) (by omega))
    simp only [h2]
theorem catches_x {h : Hp} {d : Nat} (hD : DR h d) (hS : SD d) {i t : Nat} (hi : i < 4) (ht : t < 8) (ce lo : Int32) : F_X0_catches d (nI i) ce (nI t) lo h = some (b2i (catV (h.1 (d + 1) i) (h.1 (d + 3) i) (h.1 (d + 4) i) (h.1 (d + 5) t) ce lo t), h) := by
  unfold DR at hD
  unfold SD at hS
  have a1 := aIn_i hS.2.1 hi (by decide)
  have a3 := aIn_i hS.2.2.2.1 hi (by decide)
  have a4 := aIn_i hS.2.2.2.2.1 hi (by decide)
  have a5 := aIn_i hS.2.2.2.2.2.1 ht (by decide)
  have key : F_X0_catches_J23 d (nI i) ce (nI t) lo h = some (b2i (!decide (lo - 2 * mA (h.1 (d + 5) t - ce) < (if h.1 (d + 1) i = 1 then h.1 (d + 3) i + 1 else mX (h.1 (d + 3) i) 1))), h) := by
    unfold F_X0_catches_J23 F_X0_catches_J72
    simp only [hD, ob_s, a1, a3, a5, ck_t, nm_x, cl_i (show i < 2 ^ 31 by omega), cl_i (show t < 2 ^ 31 by omega)]
    by_cases c1 : h.1 (d + 1) i = 1
    · simp only [if_pos c1]
      split
      · next c2 => simp [c2, b2i]
      · next c2 => simp [c2, b2i]
    · simp only [if_neg c1]
      split
      · next c2 => simp [c2, b2i]
      · next c2 => simp [c2, b2i]
  unfold F_X0_catches
  simp only [hD, ob_s, a4, ck_t, cl_i (show i < 2 ^ 31 by omega), key]
  unfold catV
  by_cases c1 : h.1 (d + 4) i = -9
  · simp [c1]
  · by_cases c2 : nI t < h.1 (d + 4) i
    · simp [c1, c2]
    · simp [c1, c2, b2i]
def celV (h : Hp) (d i t : Nat) : Int32 := if h.1 (d + (17 + i)) t = -9 then h.1 (d + 2) i else h.1 (d + (17 + i)) t
theorem cellarOn_x {h : Hp} {d : Nat} (hD : DR h d) (hS : SD d) {i t : Nat} (hi : i < 4) (ht : t < 8) : F_X0_cellarOn d (nI i) (nI t) h = some (celV h d i t, h) := by
  obtain ⟨r1, r2⟩ := hD.car hS hi
  unfold DR at hD
  unfold SD at hS
  have h16 : shC[d + 16]? = some (3, 4) := by simp only [hS]
  have a2 := aIn_i hS.2.2.1 hi (by decide)
  unfold F_X0_cellarOn celV
  simp only [hD, ob_s, aRn_i (kd := 3) h16 hi (by decide), ck_t, cl_i (show i < 2 ^ 31 by omega), r1, aIn_i r2 ht (by decide), cl_i (show t < 2 ^ 31 by omega), a2]
  split <;> rfl
def catX (h : Hp) (d i : Nat) (sv : Int32) (t : Nat) : Bool := catV (h.1 (d + 1) i) (h.1 (d + 3) i) (h.1 (d + 4) i) (h.1 (d + 5) t) (if sv = -9 then celV h d i t else sv) (h.1 (d + 6) t) t
def hsX (h : Hp) (d i T : Nat) (sv : Int32) : Int32 := hL (catX h d i sv) (decide (h.1 (d + 1) i = 2)) T 0 0 true
theorem talksTo_L {h : Hp} {d : Nat} (hD : DR h d) (hS : SD d) {i T : Nat} (hi : i < 4) (hT : h.1 d 2 = nI T) (hT8 : T ≤ 8) (sv : Int32) : ∀ (N t : Nat) (s : Int32) (sp : Bool), t ≤ T → T + 1 ≤ t + N → F_X0_talksTo_L8 d (nI i) sv N s (b2i sp) (nI t) h = some (hL (catX h d i sv) (decide (h.1 (d + 1) i = 2)) (T - t) t s sp, h) := by
  intro N
  induction N with
  | zero => intro t s sp h1 h2; omega
  | succ N ih =>
    intro t s sp h1 h2
    rw [F_X0_talksTo_L8, hT]
    by_cases e : t = T
    · subst e
      rw [if_pos (Int32.le_refl _), Nat.sub_self]
      rfl
    · have ih := fun s sp => ih (t + 1) s sp (by omega) (by omega)
      have ih1 := fun s => ih s true
      have ih0 := fun s => ih s false
      rw [show b2i true = 1 from rfl] at ih1
      rw [show b2i false = 0 from rfl] at ih0
      rw [if_neg (nI_ge (show t < T by omega) (by omega)), show T - t = (T - (t + 1)) + 1 by omega, hL]
      have hJ : ∀ ce : Int32, F_X0_talksTo_J34 (F_X0_talksTo_L8 d (nI i) sv N) d (nI i) sv s (b2i sp) (nI t) ce h = some (if catV (h.1 (d + 1) i) (h.1 (d + 3) i) (h.1 (d + 4) i) (h.1 (d + 5) t) ce (h.1 (d + 6) t) t then hL (catX h d i sv) (decide (h.1 (d + 1) i = 2)) (T - (t + 1)) (t + 1) (if decide (h.1 (d + 1) i = 2) && !sp then s else s ||| (1 <<< (nI t &&& 31))) (!sp) else hL (catX h d i sv) (decide (h.1 (d + 1) i = 2)) (T - (t + 1)) (t + 1) s sp, h) := by
        intro ce
        have c9 := catches_x hD hS hi (show t < 8 by omega) ce (h.1 (d + 6) t)
        unfold DR at hD
        unfold SD at hS
        have a1 := aIn_i hS.2.1 hi (by decide)
        have a6 := aIn_i hS.2.2.2.2.2.2.1 (show t < 8 by omega) (by decide)
        unfold F_X0_talksTo_J34 F_X0_talksTo_J70 F_X0_talksTo_J77
        simp only [hD, ob_s, a1, a6, ck_t, cl_i (show i < 2 ^ 31 by omega), cl_i (show t < 2 ^ 31 by omega), c9, bnd_s, nm_x, nI_1, b2i_0, ih, ih0, ih1]
        cases hc : catV (h.1 (d + 1) i) (h.1 (d + 3) i) (h.1 (d + 4) i) (h.1 (d + 5) t) ce (h.1 (d + 6) t) t with
        | false => simp
        | true =>
          by_cases c2 : h.1 (d + 1) i = 2
          · cases sp <;> simp [c2]
          · cases sp <;> simp [c2]
      have hcx : catX h d i sv t = catV (h.1 (d + 1) i) (h.1 (d + 3) i) (h.1 (d + 4) i) (h.1 (d + 5) t) (if sv = -9 then celV h d i t else sv) (h.1 (d + 6) t) t := rfl
      rw [hcx]
      by_cases c1 : sv = -9
      · simp only [if_pos c1, cellarOn_x hD hS hi (show t < 8 by omega), bnd_s]
        rw [hJ]
      · simp only [if_neg c1]
        rw [hJ]
theorem talksTo_x {h : Hp} {d : Nat} (hD : DR h d) (hS : SD d) {i T : Nat} (hi : i < 4) (hT : h.1 d 2 = nI T) (hT8 : T ≤ 8) (sv : Int32) : F_X0_talksTo d (nI i) sv h = some (hsX h d i T sv, h) := by
  unfold F_X0_talksTo hsX
  have h1 := talksTo_L hD hS hi hT hT8 sv FU 0 0 true (by omega) (by unfold FU; omega)
  rw [nI_0] at h1
  exact h1
/-! the reference -/
theorem whereOf_L {a : Dv} {k : Hp} {M : Nat} (hM : RM k) (hm : k.1 0 15 = nI M) (hM8 : M ≤ 8) (hv : ∀ j, j < M → k.1 11 j = a 9 j ∧ k.1 12 j = a 10 j ∧ k.1 13 j = a 11 j ∧ (∃ x, x < 8 ∧ a 10 j = nI x) ∧ ∃ x, x < 8 ∧ a 11 j = nI x) (f kk t : Int32) : ∀ (N i : Nat) (s is l c : Int32), i ≤ M → M + 1 ≤ i + N → (c = -9 ∧ s = -9 ∧ l = 0 ∧ is = f) ∨ (¬ c = -9 ∧ s = l ∧ is = c) → F_X7_whereOf_L14 0 kk t N is s (nI i) k = some (if carL a kk t (M - i) i l c = -9 then f else carL a kk t (M - i) i l c, k) := by
  unfold RM at hM
  intro N
  induction N with
  | zero => intro i s is l c h1 h2; omega
  | succ N ih =>
    intro i s is l c h1 h2 hr
    rw [F_X7_whereOf_L14, hm]
    by_cases e : i = M
    · subst e
      rw [if_pos (Int32.le_refl _), Nat.sub_self, carL]
      rcases hr with ⟨r1, r2, r3, r4⟩ | ⟨r1, r2, r3⟩
      · rw [if_pos r1, r4]
      · rw [if_neg r1, r3]
    · have ih := fun s is l c => ih (i + 1) s is l c (by omega) (by omega)
      obtain ⟨v1, v2, v3, ⟨x, hx, ex⟩, ⟨y, hy, ey⟩⟩ := hv i (by omega)
      have b11 := aIn_i (sh := shM) (q := 11) (n := 8) (by decide +kernel) (show i < 8 by omega) (by decide)
      have b12 := aIn_i (sh := shM) (q := 12) (n := 8) (by decide +kernel) (show i < 8 by omega) (by decide)
      have b13 := aIn_i (sh := shM) (q := 13) (n := 8) (by decide +kernel) (show i < 8 by omega) (by decide)
      rw [if_neg (nI_ge (show i < M by omega) (by omega)), show M - i = (M - (i + 1)) + 1 by omega, carL]
      simp only [hM, ob_s, b11, b12, b13, ck_t, nm_x, cl_i (show i < 2 ^ 31 by omega), nI_1, v1, v2, v3]
      have hs : (a 10 i < s) = (a 10 i < l) := by
        rcases hr with ⟨r1, r2, r3, r4⟩ | ⟨r1, r2, r3⟩
        · rw [r2, r3, ex]
          have q1 : ¬ nI x < 0 := nI_pos (by omega)
          have q2 : ¬ nI x < -9 := fun z => q1 (Int32.lt_trans z (by decide))
          simp [q1, q2]
        · rw [r2]
      by_cases c1 : a 9 i = kk
      · simp only [if_pos c1]
        by_cases c2 : t < a 10 i
        · simp only [if_pos c2]
          exact ih s is l c hr
        · simp only [if_neg c2, hs]
          by_cases c3 : a 10 i < l
          · simp only [if_pos c3]
            exact ih s is l c hr
          · simp only [if_neg c3]
            exact ih _ _ _ _ (Or.inr ⟨by rw [ey]; exact nIne9 (by omega), rfl, rfl⟩)
      · simp only [if_neg c1]
        exact ih s is l c hr
theorem whereOf_x {a : Dv} {k : Hp} {M : Nat} (hM : RM k) (hm : k.1 0 15 = nI M) (hM8 : M ≤ 8) (hv : ∀ j, j < M → k.1 11 j = a 9 j ∧ k.1 12 j = a 10 j ∧ k.1 13 j = a 11 j ∧ (∃ x, x < 8 ∧ a 10 j = nI x) ∧ ∃ x, x < 8 ∧ a 11 j = nI x) {i : Nat} (hi : i < 4) (t : Int32) : F_X7_whereOf 0 (nI i) t k = some (if car a M (nI i) t = -9 then k.1 5 i else car a M (nI i) t, k) := by
  have h1 := whereOf_L hM hm hM8 hv (k.1 5 i) (nI i) t FU 0 (-9) (k.1 5 i) 0 (-9) (by omega) (by unfold FU; omega) (Or.inl ⟨rfl, rfl, rfl, rfl⟩)
  rw [nI_0] at h1
  unfold RM at hM
  have b5 := aIn_i sM.2.2.2.2.1 hi (by decide)
  unfold F_X7_whereOf car
  simp only [hM, ob_s, b5, ck_t, nm_x, cl_i (show i < 2 ^ 31 by omega)]
  exact h1
def isV (k : Hp) (t : Nat) : Int32 := if (k.1 0 19 >>> (nI t &&& 31)) &&& 1 = 1 then 1 else k.1 9 t
def abV (x : Int32) : Int32 := if 0 ≤ x then x else -x
theorem comes_x {k : Hp} (hM : RM k) {i t : Nat} (ht : t < 8) {wh : Int32} (hw : F_X7_whereOf 0 (nI i) (nI t) k = some (wh, k)) : F_X7_comes 0 (nI i) (nI t) k = some (isV k t - 2 * abV (wh - k.1 8 t), k) := by
  unfold RM at hM
  have b8 := aIn_i sM.2.2.2.2.2.2.2.1 ht (by decide)
  have b9 := aIn_i sM.2.2.2.2.2.2.2.2.1 ht (by decide)
  unfold F_X7_comes F_X7_comes_J36 isV abV
  simp only [hw, bnd_s, hM, ob_s, b8, b9, ck_t, nm_x, cl_i (show t < 2 ^ 31 by omega)]
  by_cases c1 : (k.1 0 19 >>> (nI t &&& 31)) &&& 1 = 1
  · simp only [if_pos c1]
    split <;> rfl
  · simp only [if_neg c1]
    split <;> rfl
theorem isTurned_x {k : Hp} (hM : RM k) {i : Nat} (hi : i < 4) (t : Int32) : F_X7_isTurned 0 (nI i) t k = some (b2i (!(decide (k.1 7 i = -9) || decide (t < k.1 7 i))), k) := by
  unfold RM at hM
  have b7 := aIn_i sM.2.2.2.2.2.2.1 hi (by decide)
  unfold F_X7_isTurned
  simp only [hM, ob_s, b7, ck_t, cl_i (show i < 2 ^ 31 by omega)]
  by_cases c1 : k.1 7 i = -9
  · simp [c1, b2i]
  · by_cases c2 : t < k.1 7 i
    · simp [c1, c2, b2i]
    · simp [c1, c2, b2i]
def catM (k : Hp) (i : Nat) (needs : Int32) (wh : Nat → Int32) (t : Nat) : Bool := (decide (k.1 7 i = -9) || decide (nI t < k.1 7 i)) && !decide (isV k t - 2 * abV (wh t - k.1 8 t) < needs)
def eaten (mi sp : Bool) : Bool := mi && !sp
theorem heardBy_L {k : Hp} (hM : RM k) {i T : Nat} (hi : i < 4) (hT : k.1 0 7 = nI T) (hT8 : T ≤ 8) (needs : Int32) (wh : Nat → Int32) (hw : ∀ t, t < T → F_X7_whereOf 0 (nI i) (nI t) k = some (wh t, k)) : ∀ (N t : Nat) (s : Int32) (sp : Bool), t ≤ T → T + 1 ≤ t + N → F_X7_heardBy_L47 0 (nI i) needs N s (b2i (eaten (decide (k.1 4 i = 2)) sp)) (nI t) k = some (hL (catM k i needs wh) (decide (k.1 4 i = 2)) (T - t) t s sp, k) := by
  intro N
  induction N with
  | zero => intro t s sp h1 h2; omega
  | succ N ih =>
    intro t s sp h1 h2
    rw [F_X7_heardBy_L47, hT]
    by_cases e : t = T
    · subst e
      rw [if_pos (Int32.le_refl _), Nat.sub_self]
      rfl
    · have ih := fun s sp => ih (t + 1) s sp (by omega) (by omega)
      rw [if_neg (nI_ge (show t < T by omega) (by omega)), show T - t = (T - (t + 1)) + 1 by omega, hL]
      have b4 := aIn_i sM.2.2.2.1 hi (by decide)
      have q1 := isTurned_x hM hi (nI t)
      have q2 := comes_x hM (show t < 8 by omega) (hw t (by omega))
      unfold RM at hM
      unfold F_X7_heardBy_J91
      simp only [q1, q2, bnd_s, b2i_0, hM, ob_s, b4, ck_t, cl_i (show i < 2 ^ 31 by omega), nm_x, nI_1]
      unfold catM
      have o0 : s ||| 0 = s := by
        apply Int32.toBitVec_inj.mp
        simp
      cases ct : (decide (k.1 7 i = -9) || decide (nI t < k.1 7 i)) with
      | false =>
        simp only [Bool.not_false, Bool.true_eq_false, if_false, Bool.false_and, Bool.false_eq_true]
        exact ih s sp
      | true =>
        simp only [Bool.not_true, if_true, Bool.true_and]
        by_cases c2 : isV k t - 2 * abV (wh t - k.1 8 t) < needs
        · simp only [if_pos c2, decide_eq_true c2, Bool.not_true, Bool.false_eq_true, if_false]
          exact ih s sp
        · simp only [if_neg c2, decide_eq_false c2, Bool.not_false, if_true]
          by_cases c3 : k.1 4 i = 2
          · cases sp with
            | false =>
              have h9 := ih s true
              simp only [c3, eaten, decide_true, Bool.true_and, Bool.not_true, Bool.not_false, b2i, if_true, if_false, Bool.true_eq_false, Bool.false_eq_true] at h9 ⊢
              rw [o0]
              exact h9
            | true =>
              have h9 := ih (s ||| (1 <<< (nI t &&& 31))) false
              simp only [c3, eaten, decide_true, Bool.true_and, Bool.not_true, Bool.not_false, b2i, if_true, if_false, Bool.true_eq_false, Bool.false_eq_true] at h9 ⊢
              exact h9
          · have h9 := ih (s ||| (1 <<< (nI t &&& 31))) (!sp)
            simp only [c3, eaten, decide_false, Bool.false_and, b2i, if_true, if_false, Bool.false_eq_true] at h9 ⊢
            exact h9
def needV (ki th : Int32) : Int32 := if 1 ≤ (if ki = 1 then th + 1 else th) then (if ki = 1 then th + 1 else th) else 1
def hsM (k : Hp) (i T : Nat) (wh : Nat → Int32) : Int32 := hL (catM k i (needV (k.1 4 i) (k.1 6 i)) wh) (decide (k.1 4 i = 2)) T 0 0 true
theorem heardBy_x {k : Hp} (hM : RM k) {i T : Nat} (hi : i < 4) (hT : k.1 0 7 = nI T) (hT8 : T ≤ 8) (wh : Nat → Int32) (hw : ∀ t, t < T → F_X7_whereOf 0 (nI i) (nI t) k = some (wh t, k)) : F_X7_heardBy 0 (nI i) k = some (hsM k i T wh, k) := by
  have h1 := fun needs => heardBy_L hM hi hT hT8 needs wh hw FU 0 0 true (by omega) (by unfold FU; omega)
  rw [show eaten (decide (k.1 4 i = 2)) true = false by simp [eaten], nI_0, show b2i false = 0 from rfl] at h1
  unfold RM at hM
  have b4 := aIn_i sM.2.2.2.1 hi (by decide)
  have b6 := aIn_i sM.2.2.2.2.2.1 hi (by decide)
  unfold F_X7_heardBy F_X7_heardBy_J27 F_X7_heardBy_J38 hsM needV
  simp only [hM, ob_s, b4, b6, ck_t, cl_i (show i < 2 ^ 31 by omega)]
  by_cases c1 : k.1 4 i = 1
  · simp only [if_pos c1]
    split
    · exact h1 _
    · exact h1 _
  · simp only [if_neg c1]
    split
    · exact h1 _
    · exact h1 _
/-! both hear the same -/
theorem ab_eq : ∀ x, x < 5 → ∀ y, y < 5 → abV (nI x - nI y) = mA (nI y - nI x) := by decide +kernel
theorem need_eq : ∀ x, x < 3 → ∀ y, y < 10 → needV (nI x) (nI y) = (if nI x = 1 then nI y + 1 else mX (nI y) 1) := by decide +kernel
theorem In0.mv {h k : Hp} {d w C K T M R : Nat} (I : In0 h k d w C K T M R) : ∀ j, j < M → k.1 11 j = dv h d 9 j ∧ k.1 12 j = dv h d 10 j ∧ k.1 13 j = dv h d 11 j ∧ (∃ x, x < 8 ∧ dv h d 10 j = nI x) ∧ ∃ x, x < 8 ∧ dv h d 11 j = nI x := by
  intro j hj
  obtain ⟨-, m2, ⟨x, hx, m3⟩, m4, m5, m6⟩ := I.move hj
  have := I.C.2.2
  exact ⟨m4, m5, m6, m2, x, by omega, m3⟩
theorem In0.where_ {h k : Hp} {d w C K T M R : Nat} (I : In0 h k d w C K T M R) {i t : Nat} (hi : i < K) (ht : t < 8) : F_X7_whereOf 0 (nI i) (nI t) k = some (celV h d i t, k) := by
  have hK := I.K.2.2
  rw [whereOf_x I.2.2.2.1 I.M.2.1 I.M.2.2 I.mv (show i < 4 by omega), ← I.carried hi ht, (I.cheese hi).2.2.2.2.2.1]
  rfl
theorem carL_r {a : Dv} {k t : Int32} {C : Nat} : ∀ n i l c, (c = -9 ∨ ∃ x, x < C ∧ c = nI x) → (∀ j, i ≤ j → j < i + n → ∃ x, x < C ∧ a 11 j = nI x) → carL a k t n i l c = -9 ∨ ∃ x, x < C ∧ carL a k t n i l c = nI x := by
  intro n
  induction n with
  | zero => intro i l c hc _; exact hc
  | succ n ih =>
    intro i l c hc hj
    have h1 := fun l c hc => ih (i + 1) l c hc (fun j q1 q2 => hj j (by omega) (by omega))
    rw [carL]
    split
    · split
      · exact h1 l c hc
      · split
        · exact h1 l c hc
        · exact h1 _ _ (Or.inr (hj i (Nat.le_refl _) (by omega)))
    · exact h1 l c hc
theorem In0.cel {h k : Hp} {d w C K T M R : Nat} (I : In0 h k d w C K T M R) {i t : Nat} (hi : i < K) (ht : t < 8) : ∃ x, x < C ∧ celV h d i t = nI x := by
  unfold celV
  rw [I.carried hi ht]
  split
  · exact (I.cheese hi).2.1
  · next c =>
    have := carL_r (a := dv h d) (k := nI i) (t := nI t) (C := C) M 0 0 (-9) (Or.inl rfl) (fun j _ hj => (I.move (show j < M by omega)).2.2.1)
    rcases this with q | q
    · exact absurd q c
    · exact q
theorem In0.heard {h k : Hp} {d w C K T M R : Nat} (I : In0 h k d w C K T M R) {i : Nat} (hi : i < K) : F_X7_heardBy 0 (nI i) k = some (hsX h d i T (-9), k) := by
  have hK := I.K.2.2
  have hT := I.T.2.2
  have hC := I.C.2.2
  rw [heardBy_x I.2.2.2.1 (show i < 4 by omega) I.T.2.1 I.T.2.2 (fun t => celV h d i t) (fun t ht => I.where_ hi (by omega))]
  obtain ⟨⟨x1, hx1, e1⟩, -, ⟨x3, hx3, e3⟩, -, f1, f2, f3, f4⟩ := I.cheese hi
  unfold hsM hsX
  rw [f1]
  congr 2
  apply hL_c
  intro t _ ht
  obtain ⟨⟨y5, hy5, g5⟩, -, -, h8, h9, -⟩ := I.talk (show t < T by omega)
  obtain ⟨c, hc, ec⟩ := I.cel hi (show t < 8 by omega)
  have hwh : k.1 0 19 = 0 := by
    rw [← kd_r (by decide)]
    exact I.2.2.2.2.2.2.2.2.1.2.2.2.2.2
  have his : isV k t = h.1 (d + 6) t := by
    unfold isV
    rw [hwh, h9, if_neg]
    intro z
    have : (0 : Int32) >>> (nI t &&& 31) = 0 := by
      apply Int32.toBitVec_inj.mp
      simp
    rw [this] at z
    exact absurd z (by decide)
  have E1 : h.1 (d + 6) t - 2 * abV (celV h d i t - k.1 8 t) = h.1 (d + 6) t - 2 * mA (h.1 (d + 5) t - celV h d i t) := by rw [h8, ec, g5, ab_eq c (by omega) y5 (by omega)]
  have E2 : needV (h.1 (d + 1) i) (k.1 6 i) = (if h.1 (d + 1) i = 1 then h.1 (d + 3) i + 1 else mX (h.1 (d + 3) i) 1) := by rw [f3, e1, e3, need_eq x1 hx1 x3 hx3]
  unfold catM catX catV
  dsimp only
  rw [if_pos rfl, his, f4, E1, E2]
theorem In0.talks {h k : Hp} {d w C K T M R : Nat} (I : In0 h k d w C K T M R) {i : Nat} (hi : i < K) : F_X0_talksTo d (nI i) (-9) h = some (hsX h d i T (-9), h) := by
  have hK := I.K.2.2
  exact talksTo_x (I.2.2.1.dr I.1) (SD_of I.1) (show i < 4 by omega) I.T.1 I.T.2.2 (-9)
theorem st_heard : ∀ a : Int32, SP Inv (fun h => F_X6_heard 0 a h) (fun k => F_X7_heard 0 a k) := by
  rintro a h k ⟨d, w, C, K, T, M, R, I⟩
  have hS := SD_of I.1
  have hR := I.2.2.1
  have hD := hR.dr I.1
  have hM := I.2.2.2.1
  unfold RC at hR
  unfold SD at hS
  unfold DR at hD
  unfold RM at hM
  dsimp only
  unfold F_X6_heard F_X7_heard
  rcases cheese_q I a with ⟨e1, e2⟩ | ⟨i, hi, rfl, e1, e2⟩
  · rw [e1, e2]
    exact ⟨-1, h, k, rfl, rfl, d, w, C, K, T, M, R, I⟩
  · rw [e1, e2]
    simp only [bnd_s, if_neg (show ¬ (1 : Int32) = 0 by decide), hR, gO_s, hS, ck_t, I.talks hi, I.heard hi]
    exact ⟨_, h, k, rfl, rfl, d, w, C, K, T, M, R, I⟩
theorem st_where : ∀ a b : Int32, SP Inv (fun h => F_X6_where 0 a b h) (fun k => F_X7_where 0 a b k) := by
  rintro a b h k ⟨d, w, C, K, T, M, R, I⟩
  have hS0 := SD_of I.1
  have hD0 := I.2.2.1.dr I.1
  have hS := SD_of I.1
  have hR := I.2.2.1
  have hD := hR.dr I.1
  have hM := I.2.2.2.1
  unfold RC at hR
  unfold SD at hS
  unfold DR at hD
  unfold RM at hM
  have hK := I.K.2.2
  dsimp only
  unfold F_X6_where F_X7_where
  rcases cheese_q I a with ⟨e1, e2⟩ | ⟨i, hi, rfl, e1, e2⟩
  · rw [e1, e2]
    exact ⟨-1, h, k, rfl, rfl, d, w, C, K, T, M, R, I⟩
  rw [e1, e2]
  simp only [bnd_s, if_neg (show ¬ (1 : Int32) = 0 by decide)]
  rcases day_q b h k with ⟨g1, g2⟩ | ⟨t, ht, rfl, g1, g2⟩
  · rw [g1, g2]
    exact ⟨-2, h, k, rfl, rfl, d, w, C, K, T, M, R, I⟩
  rw [g1, g2]
  simp only [bnd_s, if_neg (show ¬ (1 : Int32) = 0 by decide), hR, gO_s, hS, ck_t, cellarOn_x hD0 hS0 (show i < 4 by omega) ht, I.where_ hi ht]
  exact ⟨_, h, k, rfl, rfl, d, w, C, K, T, M, R, I⟩
