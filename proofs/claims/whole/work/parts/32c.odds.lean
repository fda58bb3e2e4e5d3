/-! the reference tries all ways to whisper -/
theorem lys_c {H H' : Nat} : ∀ n, (∀ t, t < n → bitQ H t = bitQ H' t) → lys H n = lys H' n := by
  intro n
  induction n with
  | zero => intro _; rfl
  | succ n ih =>
    intro h
    rw [lys, lys, h n (by omega), ih (fun t ht => h t (by omega))]
theorem lys_hi {S t : Nat} (h : S < 2 ^ t) : lys S (t + 1) = lys S t := by
  rw [lys, bitQ_hi h]
  rfl
theorem lys_or {S t : Nat} : lys (S ||| 2 ^ t) (t + 1) = t :: lys S t := by
  have h1 : bitQ (S ||| 2 ^ t) t = true := by rw [bitQ_t, Nat.testBit_or, Nat.testBit_two_pow_self, Bool.or_true]
  rw [lys, h1, if_pos rfl, lys_c t (fun s hs => ?_)]
  rw [bitQ_t, bitQ_t, Nat.testBit_or, Nat.testBit_two_pow_of_ne (by omega), Bool.or_false]
def fwS (cat it : Nat → Bool) (mi : Bool) : Nat → Nat → Nat → Nat
  | 0, _, s => s
  | n + 1, t, s => fwS cat it mi n (t + 1) (toS (cat t) (it t) mi s)
theorem hw_L {cat it : Nat → Bool} {mi : Bool} : ∀ (n t S : Nat) (sp : Bool), t + n ≤ 8 → S < 2 ^ t → ∃ H, H < 2 ^ (t + n) ∧ hL cat mi n t (nI S) sp = nI H ∧ (lys H (t + n)).any it = decide (fwS cat it mi n t (encS ((lys S t).any it) (mi && !sp)) % 2 = 1) := by
  intro n
  induction n with
  | zero =>
    intro t S sp _ hS
    refine ⟨S, hS, rfl, ?_⟩
    rw [fwS, enc_0]
    rfl
  | succ n ih =>
    intro t S sp h8 hS
    rw [hL, fwS]
    have hS2 : S < 2 ^ (t + 1) := Nat.lt_of_lt_of_le hS (Nat.pow_le_pow_right (by decide) (by omega))
    have hT2 : S ||| 2 ^ t < 2 ^ (t + 1) := Nat.or_lt_two_pow hS2 (Nat.pow_lt_pow_right (by decide) (by omega))
    have e1 := ih (t + 1) S
    have e2 := ih (t + 1) (S ||| 2 ^ t)
    rw [lys_hi hS] at e1
    rw [lys_or, List.any_cons] at e2
    rw [show t + 1 + n = t + (n + 1) by omega] at e1 e2
    cases hc : cat t with
    | false =>
      obtain ⟨H, a, b, c⟩ := e1 sp (by omega) hS2
      exact ⟨H, a, by rw [← b]; rfl, by rw [c]; rfl⟩
    | true =>
      rw [if_pos rfl, toS_enc]
      cases he : (mi && !sp) with
      | true =>
        have hm : mi = true ∧ sp = false := by simpa using he
        obtain ⟨H, a, b, c⟩ := e1 (!sp) (by omega) hS2
        refine ⟨H, a, b, ?_⟩
        rw [c, hm.1, hm.2]
        simp
      | false =>
        obtain ⟨H, a, b, c⟩ := e2 (!sp) (by omega) hT2
        refine ⟨H, a, ?_, ?_⟩
        · rw [← b, shl_nI t (by omega), or_nI]
          rfl
        · rw [c]
          have : (mi && !!sp) = (if mi then !false else false) := by
            cases mi
            · rfl
            · cases sp
              · cases he
              · rfl
          rw [this, Bool.not_false, Bool.and_true, Bool.or_comm]
theorem fw_A {ct : Nat → Bool → Bool} {it : Nat → Bool} {mi : Bool} {x : Nat} : ∀ n t, fwS (fun s => ct s (bitQ x s)) it mi n t (stA ct it mi x t) = stA ct it mi x (t + n) := by
  intro n
  induction n with
  | zero => intro t; rfl
  | succ n ih =>
    intro t
    rw [fwS, show t + (n + 1) = (t + 1) + n by omega, ← ih (t + 1)]
    rfl
theorem fwS_c {cat cat' it : Nat → Bool} {mi : Bool} : ∀ n t s, (∀ x, t ≤ x → x < t + n → cat x = cat' x) → fwS cat it mi n t s = fwS cat' it mi n t s := by
  intro n
  induction n with
  | zero => intro t s _; rfl
  | succ n ih =>
    intro t s h
    rw [fwS, fwS, h t (Nat.le_refl _) (by omega)]
    exact ih _ _ (fun x h1 h2 => h x (by omega) (by omega))
/-- the bit of a word among words -/
theorem wbit {h k : Hp} {d w C K T M R : Nat} (I : In0 h k d w C K T M R) {v : Nat} (hv : v < 8) : ∀ (L : List Nat) (S : Nat), (∀ t, t ∈ L → t < T) → S < 256 → ∃ S', S' < 256 ∧ orL (h.1 (d + 7)) L (nI S) = nI S' ∧ bitQ S' v = (bitQ S v || L.any (fun t => decide (h.1 (d + 7) t = nI v))) := by
  intro L
  induction L with
  | nil => intro S _ hS; exact ⟨S, hS, rfl, by simp⟩
  | cons t L ih =>
    intro S hL hS
    obtain ⟨x, hx, ex⟩ := (I.talk (hL t List.mem_cons_self)).2.2.1
    obtain ⟨S', s1, s2, s3⟩ := ih (S ||| 2 ^ x) (fun y hy => hL y (List.mem_cons_of_mem _ hy)) (Nat.or_lt_two_pow (n := 8) hS (Nat.pow_lt_pow_right (by decide) hx))
    refine ⟨S', s1, ?_, ?_⟩
    · rw [orL, ex, shl_nI x (by omega), or_nI]
      exact s2
    · rw [s3, List.any_cons, ex, bitQ_t, bitQ_t, Nat.testBit_or, Nat.testBit_two_pow, Bool.or_assoc]
      congr 2
      by_cases e : x = v
      · rw [e]
        simp
      · rw [decide_eq_false e, decide_eq_false]
        intro z
        exact e ((nI_eq (by omega) (by omega)).mp z)
theorem whis {h k : Hp} {d w C K T M R : Nat} (I : In0 h k d w C K T M R) {i : Nat} (hi : i < K) {x : Nat} (hx : x < 2 ^ 31) : F_X7_heardBy 0 (nI i) (pI k 0 19 (nI x)) = some (hL (fun t => ctO h d i t (bitQ x t)) (miO h d i) T 0 0 true, pI k 0 19 (nI x)) := by
  have hK := I.K.2.2
  have hT := I.T.2.2
  have hC := I.C.2.2
  have row : ∀ q, q ≠ 0 → (pI k 0 19 (nI x)).1 q = k.1 q := by
    intro q hq
    funext j
    rw [pI_1, if_neg (fun z => hq z.1)]
  have hM2 : RM (pI k 0 19 (nI x)) := RM_c rfl I.2.2.2.1
  have hmv : ∀ j, j < M → (pI k 0 19 (nI x)).1 11 j = dv h d 9 j ∧ (pI k 0 19 (nI x)).1 12 j = dv h d 10 j ∧ (pI k 0 19 (nI x)).1 13 j = dv h d 11 j ∧ (∃ x, x < 8 ∧ dv h d 10 j = nI x) ∧ ∃ x, x < 8 ∧ dv h d 11 j = nI x := by
    intro j hj
    rw [row 11 (by decide), row 12 (by decide), row 13 (by decide)]
    exact I.mv j hj
  have hwh : ∀ t, t < T → F_X7_whereOf 0 (nI i) (nI t) (pI k 0 19 (nI x)) = some (celV h d i t, pI k 0 19 (nI x)) := by
    intro t ht
    rw [whereOf_x hM2 (by rw [pI_1, if_neg (by decide)]; exact I.M.2.1) I.M.2.2 hmv (show i < 4 by omega), ← I.carried hi (show t < 8 by omega), row 5 (by decide), (I.cheese hi).2.2.2.2.2.1]
    rfl
  rw [heardBy_x hM2 (show i < 4 by omega) (by rw [pI_1, if_neg (by decide)]; exact I.T.2.1) hT (fun t => celV h d i t) hwh]
  obtain ⟨⟨x1, hx1, e1⟩, -, ⟨x3, hx3, e3⟩, -, f1, f2, f3, f4⟩ := I.cheese hi
  unfold hsM miO
  rw [row 4 (by decide), row 6 (by decide), f1]
  congr 2
  apply hL_c
  intro t _ ht
  obtain ⟨⟨y5, hy5, g5⟩, -, -, h8, h9, -⟩ := I.talk (show t < T by omega)
  obtain ⟨c, hc, ec⟩ := I.cel hi (show t < 8 by omega)
  have his : isV (pI k 0 19 (nI x)) t = (if bitQ x t then 1 else h.1 (d + 6) t) := by
    unfold isV
    have h19 : (pI k 0 19 (nI x)).1 0 19 = nI x := by rw [pI_1, if_pos (by decide)]
    rw [h19, row 9 (by decide), h9]
    simp only [bit_1 hx (show t < 32 by omega)]
  have E1 : abV (celV h d i t - k.1 8 t) = mA (h.1 (d + 5) t - celV h d i t) := by rw [h8, ec, g5, ab_eq c (by omega) y5 (by omega)]
  have E2 : needV (h.1 (d + 1) i) (k.1 6 i) = (if h.1 (d + 1) i = 1 then h.1 (d + 3) i + 1 else mX (h.1 (d + 3) i) 1) := by rw [f3, e1, e3, need_eq x1 hx1 x3 hx3]
  unfold catM ctO lkV catV
  rw [his, row 7 (by decide), row 8 (by decide), f4, E1, E2]
theorem odds_M {h k : Hp} {d w C K T M R : Nat} (I : In0 h k d w C K T M R) {i v : Nat} (hi : i < K) (hv : v < 8) (x10 : Int32) (kk : Int32 → Hp → Option (Int64 × Hp)) : ∀ (N x : Nat) (k' : Hp), (∀ y, pI k' 0 19 y = pI k 0 19 y) → x ≤ 2 ^ T → 2 ^ T + 1 ≤ x + N → ∃ k'', (∀ y, pI k'' 0 19 y = pI k 0 19 y) ∧ F_X7_odds_L34 kk 0 (nI i) (nI v) x10 N (nI (sumB (pO h d i (nI v) T) x)) (nI x) k' = kk (nI (sumB (pO h d i (nI v) T) (2 ^ T))) k'' := by
  obtain ⟨-, t2, t3⟩ := I.T
  have hp : 2 ^ T ≤ 2 ^ 8 := Nat.pow_le_pow_right (by decide) t3
  intro N
  induction N with
  | zero => intro x k' h1 h2 h3; omega
  | succ N ih =>
    intro x k' h1 h2 h3
    have kT : k'.1 0 7 = nI T := by
      have := congrFun (congrFun (congrArg Prod.fst (h1 0)) 0) 7
      rw [pI_1, pI_1, if_neg (by decide), if_neg (by decide)] at this
      rw [this]
      exact t2
    rw [F_X7_odds_L34, kT, shl_nI T (by omega)]
    by_cases e : x = 2 ^ T
    · subst e
      rw [if_pos (Int32.le_refl _)]
      exact ⟨k', h1, rfl⟩
    · rw [if_neg (nI_ge (show x < 2 ^ T by omega) (by omega))]
      obtain ⟨H, a, b, c⟩ := hw_L (cat := fun t => ctO h d i t (bitQ x t)) (it := itO h d (nI v)) (mi := miO h d i) T 0 0 true (by omega) (by decide)
      rw [Nat.zero_add] at a c
      have hH := whis I hi (show x < 2 ^ 31 by omega)
      rw [show (0 : Int32) = nI 0 from rfl, b] at hH
      have h10 : (pI k 0 19 (nI x)).1 10 = k.1 10 := by
        funext j
        rw [pI_1, if_neg (fun z => absurd z.1 (by decide))]
      have hw := wordsOf_x (k := pI k 0 19 (nI x)) (RM_c rfl I.2.2.2.1) (T := T) (H := H) (l := 8) (by rw [pI_1, if_neg (by decide)]; exact t2) t3 a (by decide)
      rw [take8 t3, h10, orL_c (lys H T) 0 I.wd] at hw
      obtain ⟨S', s1, s2, s3⟩ := wbit I hv (lys H T) 0 (fun t ht => lys_lt ht) (by decide)
      rw [nI_0] at s2
      rw [s2] at hw
      have hz : bitQ 0 v = false := by rw [bitQ_t]; exact Nat.zero_testBit v
      rw [hz, Bool.false_or] at s3
      have hst : S' / 2 ^ v % 2 = pO h d i (nI v) T x % 2 := by
        have q1 : bitQ S' v = decide (pO h d i (nI v) T x % 2 = 1) := by
          rw [s3]
          refine Eq.trans c ?_
          have : encS ((lys 0 0).any (itO h d (nI v))) (miO h d i && !true) = stA (ctO h d i) (itO h d (nI v)) (miO h d i) x 0 := by
            rw [Bool.not_true, Bool.and_false]
            rfl
          rw [this, fw_A, Nat.zero_add]
          rfl
        unfold bitQ at q1
        have m1 : S' / 2 ^ v % 2 < 2 := Nat.mod_lt _ (by decide)
        have m2 : pO h d i (nI v) T x % 2 < 2 := Nat.mod_lt _ (by decide)
        have q2 := of_decide_eq_true (p := (S' / 2 ^ v % 2 = 1 ↔ pO h d i (nI v) T x % 2 = 1)) (by
          rw [decide_eq_true_eq]
          exact decide_eq_decide.mp q1)
        omega
      simp only [nm_x, h1, hH, bnd_s]
      rw [show (8 : Int32) = nI 8 from rfl, hw, bnd_s, bit_nI (by omega) (by omega), hst, nI_add, nI_1]
      exact ih (x + 1) _ (fun y => pI_pI) (by omega) (by omega)
def gF : Nat → Int64 → Int64 → Option Int64
  | 0, _, _ => none
  | n + 1, a, b => if lg_cmp b 0 = 0 then some a else ck (!decide (b = 0)) (gF n b (a - a / b * b))
theorem gF_x (kk : Int64 → Hp → Option (Int64 × Hp)) (x1 x2 : Int64) (x3 : Int32) (k : Hp) : ∀ (n N : Nat) (a b g : Int64), n ≤ N → gF n a b = some g → F_X7_inLeastTerms_L6 kk x1 x2 x3 N a b k = kk g k := by
  intro n
  induction n with
  | zero => intro N a b g _ h; cases h
  | succ n ih =>
    intro N a b g hN hg
    cases N with
    | zero => omega
    | succ N =>
      rw [F_X7_inLeastTerms_L6]
      rw [gF] at hg
      by_cases c : lg_cmp b 0 = 0
      · rw [if_pos c] at hg ⊢
        rw [Option.some.inj hg]
      · rw [if_neg c] at hg ⊢
        cases c2 : (!decide (b = 0)) with
        | false => rw [c2] at hg; cases hg
        | true =>
          rw [c2, ck_t] at hg
          rw [ck_t, nm_x]
          exact ih N _ _ g (by omega) hg
def ltOk (T U : Nat) : Bool := match gF 16 (nI U).toInt64 ((1 : Int64) <<< ((nI T).toInt64 &&& 63)) with
  | none => false
  | some g => decide (g ≠ 0) && decide ((nI U).toInt64 / g = (rdF 8 (nI U) (nI (2 ^ T))).1.toInt64) && decide (((1 : Int64) <<< ((nI T).toInt64 &&& 63)) / g = (rdF 8 (nI U) (nI (2 ^ T))).2.toInt64)
theorem ltOk_all : ∀ T, T < 9 → ∀ U, U < 2 ^ T + 1 → ltOk T U = true := by decide +kernel
theorem st_odds : ∀ a b c : Int32, SP Inv (fun h => F_X6_odds 0 a b c h) (fun k => F_X7_odds 0 a b c k) := by
  rintro a b c h k ⟨d, w, C, K, T, M, R, I⟩
  have hS := SD_of I.1
  have hR := I.2.2.1
  have hD := hR.dr I.1
  have hM := I.2.2.2.1
  unfold RC at hR
  unfold SD at hS
  unfold DR at hD
  unfold RM at hM
  dsimp only
  unfold F_X6_odds F_X7_odds
  rcases cheese_q I a with ⟨e1, e2⟩ | ⟨i, hi, rfl, e1, e2⟩
  · rw [e1, e2]
    exact ⟨_, h, k, rfl, rfl, d, w, C, K, T, M, R, I⟩
  rw [e1, e2, bnd_s, bnd_s, if_neg (show ¬ (1 : Int32) = 0 by decide), if_neg (show ¬ (1 : Int32) = 0 by decide)]
  rcases word_q b h k with ⟨e3, e4⟩ | ⟨v, hv, rfl, e3, e4⟩
  · rw [e3, e4]
    exact ⟨_, h, k, rfl, rfl, d, w, C, K, T, M, R, I⟩
  rw [e3, e4, bnd_s, bnd_s, if_neg (show ¬ (1 : Int32) = 0 by decide), if_neg (show ¬ (1 : Int32) = 0 by decide), mWithin, bnd_s]
  by_cases c1 : c < 0
  · rw [if_pos c1, if_pos c1, if_pos rfl]
    exact ⟨_, h, k, rfl, rfl, d, w, C, K, T, M, R, I⟩
  rw [if_neg c1, if_neg c1]
  by_cases c2 : (1 : Int32) < c
  · rw [if_pos c2, if_pos rfl, if_neg (Int32.not_le.mpr c2)]
    exact ⟨_, h, k, rfl, rfl, d, w, C, K, T, M, R, I⟩
  rw [if_neg c2, if_neg (show ¬ (1 : Int32) = 0 by decide), if_pos (Int32.not_lt.mp c2)]
  obtain ⟨h2, w2, x1, I2, x2, x3⟩ := weigh_x I hi (nI v)
  obtain ⟨k2, y1, y2⟩ := odds_M I hi hv c (fun w22 h23 => nm (pI h23 0 19 (0 : Int32)) fun h24 => bnd (F_X7_inLeastTerms (w22).toInt64 ((1 : Int64) <<< (((h24.1 0 7)).toInt64 &&& 63)) c h24) fun r26 h25 => some (r26, h25)) FU 0 k (fun y => rfl) (Nat.zero_le _) (by
    have : 2 ^ T ≤ 2 ^ 8 := Nat.pow_le_pow_right (by decide) I.T.2.2
    unfold FU
    omega)
  rw [show nI (sumB (pO h d i (nI v) T) 0) = 0 from rfl, nI_0] at y2
  rw [y2, nm_x, y1 0, pI_same (show k.1 0 19 = 0 by rw [← kd_r (by decide)]; exact I.2.2.2.2.2.2.2.2.1.2.2.2.2.2), I.T.2.1]
  have hU := (sumB_x (p := pO h d i (nI v) T) (fun x => stA_lt _ _ _ x T) (2 ^ T)).2
  have hok := ltOk_all T (by have := I.T.2.2; omega) (sumB (pO h d i (nI v) T) (2 ^ T)) (by omega)
  generalize hu : sumB (pO h d i (nI v) T) (2 ^ T) = U at hok x2 x3
  unfold ltOk at hok
  cases hg : gF 16 (nI U).toInt64 ((1 : Int64) <<< ((nI T).toInt64 &&& 63)) with
  | none => rw [hg] at hok; cases hok
  | some g =>
    rw [hg] at hok
    simp only [Bool.and_eq_true, decide_eq_true_eq] at hok
    obtain ⟨⟨g0, g1⟩, g2⟩ := hok
    unfold F_X7_inLeastTerms
    rw [gF_x _ _ _ _ k 16 FU _ _ g (by unfold FU; omega) hg]
    have hR2 := I2.2.2.1
    unfold RC at hR2
    have o20 := sO.2.2.2.1
    simp only [hR, gO_s, o20, ck_t, hS, x1, bnd_s, hR2, decide_eq_false g0, Bool.not_false, x2, x3]
    by_cases c3 : c = 0
    · simp only [if_pos c3, bnd_s, g1]
      exact ⟨_, h2, k, rfl, rfl, d, w2, C, K, T, M, R, I2⟩
    · simp only [if_neg c3, bnd_s, g2]
      exact ⟨_, h2, k, rfl, rfl, d, w2, C, K, T, M, R, I2⟩
