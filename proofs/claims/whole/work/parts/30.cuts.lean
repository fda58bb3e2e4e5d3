/-! cuts -/
theorem faultAs_x {h : Hp} {q : Nat} {c : Int32} : F_X1_faultAs q c h = some (if 0 ≤ h.1 q 2 then (if h.1 q 1 = c then 0 else 2) else 1, h) := by
  unfold F_X1_faultAs
  rw [hasNothing_x, bnd_s]
  by_cases c1 : 0 ≤ h.1 q 2
  · simp only [if_pos c1, if_true]
    split <;> rfl
  · simp only [if_neg c1, if_neg (show ¬ (1 : Int32) = 0 by decide)]
/-- the reference's test of a stretch of a sheet, beside the class's -/
theorem against_q {h k : Hp} {d w C K T M R : Nat} (I : In0 h k d w C K T M R) {i : Nat} (hi : i < 4) (c p e : Int32) :
    (∃ f : Int32, (f = 1 ∨ f = 2) ∧ F_X1_faultAs (67 + 2 * i) c h = some (f, h) ∧ F_X7_against 0 (nI i) c p e k = some (f, k)) ∨
    ∃ n, n ≤ 60 ∧ h.1 (67 + 2 * i) 2 = nI n ∧ F_X1_faultAs (67 + 2 * i) c h = some (0, h) ∧ F_X7_against 0 (nI i) c p e k = some (if e < 0 then 4 else if hcv (nI n) p e = 0 then 3 else 0, k) := by
  have hM := I.2.2.2.1
  unfold RM at hM
  have b1 := aIn_i sM.1 hi (by decide)
  have b2 := aIn_i sM.2.1 hi (by decide)
  obtain ⟨⟨x, hx, ex⟩, s2, s3⟩ := I.sh hi
  rw [faultAs_x]
  unfold F_X7_against F_X7_against_J23
  simp only [hM, ob_s, b1, b2, ck_t, cl_i (show i < 2 ^ 31 by omega)]
  rcases s2 with ⟨u1, u2⟩ | ⟨n, hn, u1, u2, u3⟩
  · left
    refine ⟨1, Or.inl rfl, ?_, ?_⟩
    · rw [u1, if_neg (by decide)]
    · simp only [u2, if_true]
  · rw [ex] at u3
    simp only [u1, u2, u3, ex, if_pos (nI_pos' (show n < 2 ^ 31 by omega)), if_neg (nIne9 (show x < 2 ^ 31 by omega))]
    by_cases cl : nI x = c
    · right
      refine ⟨n, hn, rfl, by rw [if_pos cl], ?_⟩
      unfold hcv
      simp only [if_pos cl]
      by_cases c1 : e < 0
      · rw [if_pos c1, if_neg (Int32.not_le.mpr c1)]
      · simp only [if_neg c1, if_pos (Int32.not_lt.mp c1)]
        by_cases c2 : p < 0
        · simp only [if_pos c2, if_true]
        · simp only [if_neg c2]
          by_cases c3 : nI n < p
          · simp only [if_pos c3, if_true]
          · simp only [if_neg c3]
            by_cases c4 : nI n - p < e
            · simp only [if_pos c4, if_neg (Int32.not_le.mpr c4), if_true]
            · simp only [if_neg c4, if_pos (Int32.not_lt.mp c4), if_neg (show ¬ (1 : Int32) = 0 by decide)]
    · left
      exact ⟨2, Or.inr rfl, by rw [if_neg cl], by rw [if_neg cl]⟩
def chk (K : Nat) (cV dV : Nat → Int32) : Nat → Nat → Option Int32
  | 0, _ => none
  | n + 1, j => if cV j < 0 ∨ nI K ≤ cV j then some (-1) else if dV j < 0 ∨ 8 < dV j then some (-2) else chk K cV dV n (j + 1)
def acH (W : Nat → Int32) : Nat → Nat → Int32 → Int32
  | 0, _, s => s
  | n + 1, j, s => acH W n (j + 1) (s ||| W j)
def acI (W : Nat → Int32) : Nat → Nat → Int32 → Int32 → Int32
  | 0, _, _, e => e
  | n + 1, j, s, e => acI W n (j + 1) (s ||| W j) (if e = -9 then (if s ||| W j = s then nI j else e) else e)
def fin {α : Type} (r : Option Int32) (h : Hp) (o : Option (Int32 × Hp)) : Option (Int32 × Hp) := match r with
  | some x => some (x, h)
  | none => o
theorem cheese_v {h k : Hp} {d w C K T M R : Nat} (I : In0 h k d w C K T M R) (x : Int32) : ((x < 0 ∨ nI K ≤ x) ∧ F_X6_isCheese 0 x h = some (0, h) ∧ F_X7_isCheese 0 x k = some (0, k)) ∨ (¬ (x < 0 ∨ nI K ≤ x) ∧ ∃ i, i < K ∧ x = nI i ∧ F_X6_isCheese 0 x h = some (1, h) ∧ F_X7_isCheese 0 x k = some (1, k)) := by
  have hK := I.K.2.2
  rcases cheese_q I x with ⟨e1, e2⟩ | ⟨i, hi, rfl, e1, e2⟩
  · left
    refine ⟨?_, e1, e2⟩
    rw [mIsCheese, I.K.2.1] at e2
    by_cases c1 : x < 0
    · exact Or.inl c1
    · by_cases c2 : nI K ≤ x
      · exact Or.inr c2
      · rw [if_neg c1, if_neg c2] at e2
        have : (1 : Int32) = 0 := congrArg Prod.fst (Option.some.inj e2)
        exact absurd this (by decide)
  · right
    exact ⟨fun z => z.elim (nI_pos (by omega)) (nI_ge hi (by omega)), i, hi, rfl, e1, e2⟩
/-- the words of a pair -/
def pairW (h : Hp) (d T : Nat) (c e : Int32) : Int32 := orL (h.1 (d + 7)) ((lys (Hn h d T c.toNatClampNeg) T).take e.toNatClampNeg) 0
theorem ix2 (p j : Nat) : nI p + (2 : Int32) * nI j = nI (p + 2 * j) := by
  have : (2 : Int32) = nI 2 := rfl
  rw [this, pk_mul, nI_add]
theorem cutPairs_L {h k : Hp} {d w C K T M R : Nat} (I : In0 h k d w C K T M R) {i p n : Nat} (hi : i < 4) (hp : p + 2 * n ≤ 60) (wh : Int32) (kk : Int32 → Int32 → Hp → Option (Int32 × Hp)) : ∀ (N j : Nat) (s e : Int32), j ≤ n → n + 1 ≤ j + N →
    F_X6_cutPairs_L10 kk 0 (68 + 2 * i) (nI p) (nI n) wh N s e (nI j) h = fin (α := Int32) (chk K (fun j => h.1 (68 + 2 * i) (p + 2 * j)) (fun j => h.1 (68 + 2 * i) (p + 2 * j + 1)) (n - j) j) h
      (kk (acH (fun j => pairW h d T (h.1 (68 + 2 * i) (p + 2 * j)) (h.1 (68 + 2 * i) (p + 2 * j + 1))) (n - j) j s) (acI (fun j => pairW h d T (h.1 (68 + 2 * i) (p + 2 * j)) (h.1 (68 + 2 * i) (p + 2 * j + 1))) (n - j) j s e) h) := by
  obtain ⟨r1, r2, r3, r4, r5, r6⟩ := I.2.2.1.sheet hi
  have hS := SD_of I.1
  have hR := I.2.2.1
  have hD := hR.dr I.1
  have hM := I.2.2.2.1
  unfold RC at hR
  unfold SD at hS
  unfold DR at hD
  unfold RM at hM
  intro N
  induction N with
  | zero => intro j s e h1 h2; omega
  | succ N ih =>
    intro j s e h1 h2
    rw [F_X6_cutPairs_L10]
    by_cases e0 : j = n
    · subst e0
      rw [if_pos (Int32.le_refl _), Nat.sub_self]
      rfl
    · have ih := fun s e => ih (j + 1) s e (by omega) (by omega)
      rw [if_neg (nI_ge (show j < n by omega) (by omega)), show n - j = (n - (j + 1)) + 1 by omega, chk, acH, acI]
      have a1 := aIn_i r5 (show p + 2 * j < 60 by omega) (by decide)
      have a2 := aIn_i r5 (show p + 2 * j + 1 < 60 by omega) (by decide)
      simp only [ix2, a1, ck_t, nm_x, cl_i (show p + 2 * j < 2 ^ 31 by omega), nI_1, a2, cl_i (show p + 2 * j + 1 < 2 ^ 31 by omega)]
      rcases cheese_v I (h.1 (68 + 2 * i) (p + 2 * j)) with ⟨c1, g1, g2⟩ | ⟨c1, x, hx, ex, g1, g2⟩
      · rw [if_pos c1, g1]
        simp only [bnd_s, if_true]
        rfl
      · rw [if_neg c1, g1]
        simp only [bnd_s, if_neg (show ¬ (1 : Int32) = 0 by decide)]
        by_cases c2 : h.1 (68 + 2 * i) (p + 2 * j + 1) < 0
        · rw [if_pos c2, if_pos (Or.inl c2)]
          rfl
        · rw [if_neg c2]
          by_cases c3 : 8 < h.1 (68 + 2 * i) (p + 2 * j + 1)
          · rw [if_neg (Int32.not_le.mpr c3), if_pos (Or.inr c3)]
            rfl
          · rw [if_pos (Int32.not_lt.mp c3), if_neg (fun z => z.elim c2 c3)]
            obtain ⟨l, hl, el⟩ := nI_of2 (M := 8) (n := 8) (by decide) c2 (Int32.not_lt.mp c3)
            have hK := I.K.2.2
            have hpw : pairW h d T (nI x) (nI l) = orL (h.1 (d + 7)) ((lys (Hn h d T x) T).take l) 0 := by
              unfold pairW
              rw [cl_i (show x < 2 ^ 31 by omega), cl_i (show l < 2 ^ 31 by omega)]
            simp only [ex, el, hpw, hR, gO_s, hS, ck_t, (I.hn hx).2.2.1, bnd_s, (I.down hx (show l < 2 ^ 31 by omega)).1, nm_x, nI_1]
            by_cases c4 : s ||| orL (h.1 (d + 7)) ((lys (Hn h d T x) T).take l) 0 = s
            · simp only [if_pos c4]
              by_cases c5 : e = -9
              · simp only [if_pos c5]
                exact ih _ _
              · simp only [if_neg c5]
                exact ih _ _
            · simp only [if_neg c4]
              rw [ite_self]
              exact ih _ _
theorem cuts_1 {h k : Hp} {d w C K T M R : Nat} (I : In0 h k d w C K T M R) {i p n : Nat} (hi : i < 4) (hp : p + 2 * n ≤ 60) (wh : Int32) (kk : Hp → Option (Int32 × Hp)) : ∀ (N j : Nat), j ≤ n → n + 1 ≤ j + N →
    F_X7_cuts_L91 kk 0 (nI n) wh (nI (60 * i + p)) N (nI j) k = fin (α := Int32) (chk K (fun j => h.1 (68 + 2 * i) (p + 2 * j)) (fun j => h.1 (68 + 2 * i) (p + 2 * j + 1)) (n - j) j) k (kk k) := by
  have hM := I.2.2.2.1
  unfold RM at hM
  have hc := (I.sh hi).2.2
  intro N
  induction N with
  | zero => intro j h1 h2; omega
  | succ N ih =>
    intro j h1 h2
    rw [F_X7_cuts_L91]
    by_cases e0 : j = n
    · subst e0
      rw [if_pos (Int32.le_refl _), Nat.sub_self]
      rfl
    · rw [if_neg (nI_ge (show j < n by omega) (by omega)), show n - j = (n - (j + 1)) + 1 by omega, chk]
      have b1 := aIn_i sM.2.2.1 (show 60 * i + p + 2 * j < 240 by omega) (by decide)
      have b2 := aIn_i sM.2.2.1 (show 60 * i + p + 2 * j + 1 < 240 by omega) (by decide)
      have v1 : k.1 3 (60 * i + p + 2 * j) = h.1 (68 + 2 * i) (p + 2 * j) := by rw [Nat.add_assoc]; exact hc _ (by omega)
      have v2 : k.1 3 (60 * i + p + 2 * j + 1) = h.1 (68 + 2 * i) (p + 2 * j + 1) := by rw [show 60 * i + p + 2 * j + 1 = 60 * i + (p + 2 * j + 1) by omega]; exact hc _ (by omega)
      simp only [hM, ob_s, ix2, b1, ck_t, cl_i (show 60 * i + p + 2 * j < 2 ^ 31 by omega), v1, nI_1, b2, cl_i (show 60 * i + p + 2 * j + 1 < 2 ^ 31 by omega), v2, mWithin]
      rcases cheese_v I (h.1 (68 + 2 * i) (p + 2 * j)) with ⟨c1, g1, g2⟩ | ⟨c1, x, hx, ex, g1, g2⟩
      · rw [if_pos c1, g2]
        simp only [bnd_s, if_true]
        rfl
      · rw [if_neg c1, g2]
        simp only [bnd_s, if_neg (show ¬ (1 : Int32) = 0 by decide), hM, ob_s, b2, ck_t, v2]
        by_cases c2 : h.1 (68 + 2 * i) (p + 2 * j + 1) < 0
        · simp only [if_pos c2, if_true, c2, true_or]
          rfl
        · by_cases c3 : 8 < h.1 (68 + 2 * i) (p + 2 * j + 1)
          · simp only [if_neg c2, if_pos c3, if_true, c3, or_true]
            rfl
          · simp only [if_neg c2, if_neg c3, if_neg (show ¬ (1 : Int32) = 0 by decide), c2, c3, or_self, if_false, nm_x]
            exact ih (j + 1) (by omega) (by omega)
theorem chk_ok {K : Nat} {cV dV : Nat → Int32} {n j : Nat} (hc : chk K cV dV (n + 1) j = none) : (¬ (cV j < 0 ∨ nI K ≤ cV j)) ∧ ¬ (dV j < 0 ∨ 8 < dV j) ∧ chk K cV dV n (j + 1) = none := by
  rw [chk] at hc
  by_cases c1 : cV j < 0 ∨ nI K ≤ cV j
  · rw [if_pos c1] at hc; cases hc
  · rw [if_neg c1] at hc
    by_cases c2 : dV j < 0 ∨ 8 < dV j
    · rw [if_pos c2] at hc; cases hc
    · rw [if_neg c2] at hc
      exact ⟨c1, c2, hc⟩
theorem cuts_2 {h k : Hp} {d w C K T M R : Nat} (I : In0 h k d w C K T M R) {i p n : Nat} (hi : i < 4) (hp : p + 2 * n ≤ 60) (wh : Int32) (kk : Int32 → Int32 → Hp → Option (Int32 × Hp)) : ∀ (N j : Nat) (s e : Int32), j ≤ n → n + 1 ≤ j + N → chk K (fun j => h.1 (68 + 2 * i) (p + 2 * j)) (fun j => h.1 (68 + 2 * i) (p + 2 * j + 1)) (n - j) j = none →
    F_X7_cuts_L161 kk 0 (nI n) wh (nI (60 * i + p)) N s e (nI j) k = kk (acH (fun j => pairW h d T (h.1 (68 + 2 * i) (p + 2 * j)) (h.1 (68 + 2 * i) (p + 2 * j + 1))) (n - j) j s) (acI (fun j => pairW h d T (h.1 (68 + 2 * i) (p + 2 * j)) (h.1 (68 + 2 * i) (p + 2 * j + 1))) (n - j) j s e) k := by
  have hM := I.2.2.2.1
  unfold RM at hM
  have hcc := (I.sh hi).2.2
  intro N
  induction N with
  | zero => intro j s e h1 h2; omega
  | succ N ih =>
    intro j s e h1 h2 hc
    rw [F_X7_cuts_L161]
    by_cases e0 : j = n
    · subst e0
      rw [if_pos (Int32.le_refl _), Nat.sub_self]
      rfl
    · rw [show n - j = (n - (j + 1)) + 1 by omega] at hc
      obtain ⟨c1, c2, c3⟩ := chk_ok hc
      have ih := fun s e => ih (j + 1) s e (by omega) (by omega) c3
      rw [if_neg (nI_ge (show j < n by omega) (by omega)), show n - j = (n - (j + 1)) + 1 by omega, acH, acI]
      have b1 := aIn_i sM.2.2.1 (show 60 * i + p + 2 * j < 240 by omega) (by decide)
      have b2 := aIn_i sM.2.2.1 (show 60 * i + p + 2 * j + 1 < 240 by omega) (by decide)
      have v1 : k.1 3 (60 * i + p + 2 * j) = h.1 (68 + 2 * i) (p + 2 * j) := by rw [Nat.add_assoc]; exact hcc _ (by omega)
      have v2 : k.1 3 (60 * i + p + 2 * j + 1) = h.1 (68 + 2 * i) (p + 2 * j + 1) := by rw [show 60 * i + p + 2 * j + 1 = 60 * i + (p + 2 * j + 1) by omega]; exact hcc _ (by omega)
      rcases cheese_v I (h.1 (68 + 2 * i) (p + 2 * j)) with ⟨c9, -, -⟩ | ⟨-, x, hx, ex, -, -⟩
      · exact absurd c9 c1
      · obtain ⟨l, hl, el⟩ := nI_of2 (M := 8) (n := 8) (by decide) (fun z => c2 (Or.inl z)) (Int32.not_lt.mp (fun z => c2 (Or.inr z)))
        have hK := I.K.2.2
        have hpw : pairW h d T (nI x) (nI l) = orL (h.1 (d + 7)) ((lys (Hn h d T x) T).take l) 0 := by
          unfold pairW
          rw [cl_i (show x < 2 ^ 31 by omega), cl_i (show l < 2 ^ 31 by omega)]
        simp only [hM, ob_s, ix2, b1, ck_t, cl_i (show 60 * i + p + 2 * j < 2 ^ 31 by omega), v1, nI_1, b2, cl_i (show 60 * i + p + 2 * j + 1 < 2 ^ 31 by omega), v2, ex, el, hpw, (I.hn hx).2.2.2, bnd_s, (I.down hx (show l < 2 ^ 31 by omega)).2, nm_x]
        by_cases c5 : e = -9
        · simp only [if_pos c5]
          by_cases c4 : s ||| orL (h.1 (d + 7)) ((lys (Hn h d T x) T).take l) 0 = s
          · simp only [if_pos c4]
            exact ih _ _
          · simp only [if_neg c4]
            exact ih _ _
        · simp only [if_neg c5]
          exact ih _ _
set_option maxHeartbeats 1000000 in
theorem st_cuts : ∀ a b c d' e' : Int32, SP Inv (fun h => F_X6_cuts 0 a b c d' e' h) (fun k => F_X7_cuts 0 a b c d' e' k) := by
  rintro p0 p1 p2 p3 p4 h k ⟨d, w, C, K, T, M, R, I⟩
  replace I := I.fault 0
  dsimp only
  unfold F_X6_cuts F_X7_cuts
  simp only [nm_x]
  generalize pI h 0 7 0 = h at I ⊢
  generalize pI k 0 0 0 = k at I ⊢
  rcases sheet_q p0 h k with ⟨e1, e2⟩ | ⟨i, hi, rfl, e1, e2⟩
  · rw [e1, e2]
    simp only [bnd_s, if_true]
    exact ⟨-1, h, k, rfl, rfl, d, w, C, K, T, M, R, I⟩
  rw [e1, e2]
  simp only [bnd_s, if_neg (show ¬ (1 : Int32) = 0 by decide)]
  rcases lane_q p1 h k with ⟨e1, e2⟩ | ⟨l, hl, rfl, e1, e2⟩
  · rw [e1, e2]
    simp only [bnd_s, if_true]
    exact ⟨-2, h, k, rfl, rfl, d, w, C, K, T, M, R, I⟩
  rw [e1, e2]
  simp only [bnd_s, if_neg (show ¬ (1 : Int32) = 0 by decide), mWithin]
  by_cases c1 : p3 < 0
  · simp only [if_pos c1, bnd_s, if_true]
    exact ⟨-2, h, k, rfl, rfl, d, w, C, K, T, M, R, I⟩
  by_cases c2 : 20 < p3
  · simp only [if_neg c1, if_pos c2, bnd_s, if_true]
    exact ⟨-2, h, k, rfl, rfl, d, w, C, K, T, M, R, I⟩
  simp only [if_neg c1, if_neg c2, bnd_s, if_neg (show ¬ (1 : Int32) = 0 by decide)]
  by_cases c3 : p4 < 0
  · simp only [if_pos c3, bnd_s, if_true]
    exact ⟨-2, h, k, rfl, rfl, d, w, C, K, T, M, R, I⟩
  by_cases c4 : 1 < p4
  · simp only [if_neg c3, if_pos c4, if_neg (Int32.not_le.mpr c4), bnd_s, if_true]
    exact ⟨-2, h, k, rfl, rfl, d, w, C, K, T, M, R, I⟩
  simp only [if_neg c3, if_neg c4, if_pos (Int32.not_lt.mp c4), bnd_s, if_neg (show ¬ (1 : Int32) = 0 by decide)]
  obtain ⟨n, hn, rfl⟩ := nI_of2 (M := 20) (n := 20) (by decide) c1 (Int32.not_lt.mp c2)
  obtain ⟨r1, r2, r3, r4, r5, r6⟩ := I.2.2.1.sheet hi
  have a1 := aRn_i (kd := 2) r6 hi (by decide)
  have e2n : (2 : Int32) * nI n = nI (2 * n) := by
    have : (2 : Int32) = nI 2 := rfl
    rw [this, pk_mul]
  rw [e2n]
  unfold F_X6_cuts_J84 F_X6_cutPairs
  simp only [r1, ob_s, a1, ck_t, cl_i (show i < 2 ^ 31 by omega), r2, gO_s, r4]
  rcases against_q I hi (nI l) p2 (nI (2 * n)) with ⟨f, hf, g1, g2⟩ | ⟨m, hm, u1, g1, g2⟩
  · rw [g1, g2]
    have hf0 : ¬ f = 0 := by rcases hf with rfl | rfl <;> decide
    simp only [bnd_s, if_neg hf0, faultyX, failsM]
    exact ⟨_, _, _, rfl, rfl, d, w, C, K, T, M, R, I.fault f⟩
  · rw [g1, g2]
    simp only [bnd_s, if_true, hasCells_x, u1, if_neg (nI_pos (show 2 * n < 2 ^ 31 by omega))]
    by_cases c5 : hcv (nI m) p2 (nI (2 * n)) = 0
    · simp only [if_pos c5, if_neg (show ¬ (3 : Int32) = 0 by decide), faultyX, failsM, bnd_s]
      exact ⟨_, _, _, rfl, rfl, d, w, C, K, T, M, R, I.fault 3⟩
    · simp only [if_neg c5, if_true]
      obtain ⟨n1, n2⟩ := noDairy_x I
      rw [n1]
      simp only [bnd_s, n2]
      by_cases e : T = 0
      · simp only [if_pos e, if_neg (show ¬ (1 : Int32) = 0 by decide)]
        exact ⟨-3, h, k, rfl, rfl, d, w, C, K, T, M, R, I⟩
      · simp only [if_neg e, if_true, r3, ob_s]
        have hin : ∃ p, p2 = nI p ∧ p + 2 * n ≤ 60 := by
          unfold hcv at c5
          by_cases q1 : p2 < 0
          · rw [if_pos q1] at c5; exact absurd rfl c5
          rw [if_neg q1] at c5
          by_cases q2 : nI m < p2
          · rw [if_pos q2] at c5; exact absurd rfl c5
          rw [if_neg q2, if_neg (nI_pos (show 2 * n < 2 ^ 31 by omega))] at c5
          by_cases q3 : nI m - p2 < nI (2 * n)
          · rw [if_pos q3] at c5; exact absurd rfl c5
          obtain ⟨x, y, rfl, e9, g3⟩ := hc_in hm q1 q2 (nI_pos (show 2 * n < 2 ^ 31 by omega)) q3
          have e8 : 2 * n = y := by
            have hy : y < 2 ^ 31 := by omega
            exact (nI_eq (by omega) hy).mp e9
          exact ⟨x, rfl, by omega⟩
        obtain ⟨p, rfl, hp⟩ := hin
        have g3 := cutPairs_L I hi hp p4 (fun w30 w31 h32 => if p4 = (0 : Int32) then (some (w30, h32)) else (some (w31, h32))) FU 0 0 (-9) (by omega) (by unfold FU; omega)
        have g4 := cuts_1 I hi hp p4 (fun h29 => F_X7_cuts_L161 (fun w51 w52 h53 => if p4 = (0 : Int32) then (some (w51, h53)) else (some (w52, h53))) 0 (nI n) p4 (nI (60 * i + p)) FU (0 : Int32) (-9 : Int32) (0 : Int32) h29) FU 0 (by omega) (by unfold FU; omega)
        rw [nI_0] at g3 g4
        rw [g3, ix60, g4]
        cases hck : chk K (fun j => h.1 (68 + 2 * i) (p + 2 * j)) (fun j => h.1 (68 + 2 * i) (p + 2 * j + 1)) (n - 0) 0 with
        | some r => exact ⟨r, h, k, rfl, rfl, d, w, C, K, T, M, R, I⟩
        | none =>
          have g5 := cuts_2 I hi hp p4 (fun w51 w52 h53 => if p4 = (0 : Int32) then (some (w51, h53)) else (some (w52, h53))) FU 0 0 (-9) (by omega) (by unfold FU; omega) hck
          rw [nI_0] at g5
          rw [g5]
          unfold fin
          dsimp only
          by_cases c6 : p4 = 0
          · simp only [if_pos c6, bnd_s]
            exact ⟨_, h, k, rfl, rfl, d, w, C, K, T, M, R, I⟩
          · simp only [if_neg c6, bnd_s]
            exact ⟨_, h, k, rfl, rfl, d, w, C, K, T, M, R, I⟩
