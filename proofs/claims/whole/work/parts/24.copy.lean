/-- places D + lo .. D + hi of row 3 hold what stood S - D before them -/
def cp2 (k : Hp) (S D lo hi : Nat) : Hp := (fun a b => if a = 3 ∧ D + lo ≤ b ∧ b < D + hi then k.1 3 (S + (b - D)) else k.1 a b, k.2)
theorem cp2_1 {k : Hp} {S D lo hi a b : Nat} : (cp2 k S D lo hi).1 a b = if a = 3 ∧ D + lo ≤ b ∧ b < D + hi then k.1 3 (S + (b - D)) else k.1 a b := rfl
theorem cp2_0 {k : Hp} {S D lo : Nat} : cp2 k S D lo lo = k := by
  refine Prod.ext ?_ rfl
  funext a b
  rw [cp2_1, if_neg (by omega)]
theorem cp2_f {k : Hp} {S D q n : Nat} (hq : q < n) (hc : D ≤ S ∨ S + n ≤ D) : pI (cp2 k S D 0 q) 3 (D + q) ((cp2 k S D 0 q).1 3 (S + q)) = cp2 k S D 0 (q + 1) := by
  refine Prod.ext ?_ rfl
  funext a b
  rw [pI_1, cp2_1, cp2_1, cp2_1, if_neg (show ¬ (3 = 3 ∧ D + 0 ≤ S + q ∧ S + q < D + q) by omega)]
  by_cases e : a = 3 ∧ b = D + q
  · rw [if_pos e, if_pos (by omega), e.2, show S + (D + q - D) = S + q by omega]
  · rw [if_neg e]
    by_cases e2 : a = 3 ∧ D + 0 ≤ b ∧ b < D + q
    · rw [if_pos e2, if_pos (by omega)]
    · rw [if_neg e2, if_neg (by omega)]
theorem cp2_b {k : Hp} {S D q n : Nat} (hq : q < n) (hc : S ≤ D ∨ D + n ≤ S) : pI (cp2 k S D (n - q) n) 3 (D + (n - 1 - q)) ((cp2 k S D (n - q) n).1 3 (S + (n - 1 - q))) = cp2 k S D (n - (q + 1)) n := by
  refine Prod.ext ?_ rfl
  funext a b
  rw [pI_1, cp2_1, cp2_1, cp2_1, if_neg (show ¬ (3 = 3 ∧ D + (n - q) ≤ S + (n - 1 - q) ∧ S + (n - 1 - q) < D + n) by omega)]
  by_cases e : a = 3 ∧ b = D + (n - 1 - q)
  · rw [if_pos e, if_pos (by omega), e.2, show S + (D + (n - 1 - q) - D) = S + (n - 1 - q) by omega]
  · rw [if_neg e]
    by_cases e2 : a = 3 ∧ D + (n - q) ≤ b ∧ b < D + n
    · rw [if_pos e2, if_pos (by omega)]
    · rw [if_neg e2, if_neg (by omega)]
theorem ix3 (i x y : Nat) : (60 : Int32) * nI i + nI x + nI y = nI (60 * i + x + y) := by rw [ix60, nI_add]
theorem copy_F {k : Hp} (hM : RM k) {i x j y n : Nat} (hS : 60 * i + x + n ≤ 240) (hD : 60 * j + y + n ≤ 240) (hc : 60 * j + y ≤ 60 * i + x ∨ 60 * i + x + n ≤ 60 * j + y) : ∀ (N q : Nat), q ≤ n → n + 1 ≤ q + N → F_X7_copy_L166 0 (nI i) (nI x) (nI j) (nI y) (nI n) 0 N (nI q) (cp2 k (60 * i + x) (60 * j + y) 0 q) = some (nI n, cp2 k (60 * i + x) (60 * j + y) 0 n) := by
  unfold RM at hM
  intro N
  induction N with
  | zero => intro q h1 h2; omega
  | succ N ih =>
    intro q h1 h2
    rw [F_X7_copy_L166]
    by_cases e : q = n
    · subst e
      rw [if_pos (Int32.le_refl _)]
    · rw [if_neg (nI_ge (show q < n by omega) (by omega)), if_pos rfl]
      unfold F_X7_copy_J190
      have e2 : (cp2 k (60 * i + x) (60 * j + y) 0 q).2 = k.2 := rfl
      simp only [e2, hM, ob_s, ix3, aIn_i sM.2.2.1 (show 60 * i + x + q < 240 by omega) (by decide), aIn_i sM.2.2.1 (show 60 * j + y + q < 240 by omega) (by decide), ck_t, nm_x, cl_i (show 60 * i + x + q < 2 ^ 31 by omega), cl_i (show 60 * j + y + q < 2 ^ 31 by omega), nI_1, cp2_f (show q < n by omega) hc]
      exact ih (q + 1) (by omega) (by omega)
theorem copy_B {k : Hp} (hM : RM k) {i x j y n : Nat} (hS : 60 * i + x + n ≤ 240) (hD : 60 * j + y + n ≤ 240) (hc : 60 * i + x ≤ 60 * j + y ∨ 60 * j + y + n ≤ 60 * i + x) : ∀ (N q : Nat), q ≤ n → n + 1 ≤ q + N → F_X7_copy_L166 0 (nI i) (nI x) (nI j) (nI y) (nI n) 1 N (nI q) (cp2 k (60 * i + x) (60 * j + y) (n - q) n) = some (nI n, cp2 k (60 * i + x) (60 * j + y) 0 n) := by
  unfold RM at hM
  intro N
  induction N with
  | zero => intro q h1 h2; omega
  | succ N ih =>
    intro q h1 h2
    rw [F_X7_copy_L166]
    by_cases e : q = n
    · subst e
      rw [if_pos (Int32.le_refl _), Nat.sub_self]
    · rw [if_neg (nI_ge (show q < n by omega) (by omega)), if_neg (by decide)]
      unfold F_X7_copy_J190
      have e2 : (cp2 k (60 * i + x) (60 * j + y) (n - q) n).2 = k.2 := rfl
      have e3 : nI n - 1 - nI q = nI (n - 1 - q) := by
        have h9 : nI n - 1 = nI (n - 1) := pk_sub (a := n) (b := 1) (by omega)
        rw [h9, pk_sub (by omega)]
      simp only [e2, hM, ob_s, e3, ix3, aIn_i sM.2.2.1 (show 60 * i + x + (n - 1 - q) < 240 by omega) (by decide), aIn_i sM.2.2.1 (show 60 * j + y + (n - 1 - q) < 240 by omega) (by decide), ck_t, nm_x, cl_i (show 60 * i + x + (n - 1 - q) < 2 ^ 31 by omega), cl_i (show 60 * j + y + (n - 1 - q) < 2 ^ 31 by omega), nI_1, cp2_b (show q < n by omega) hc]
      exact ih (q + 1) (by omega) (by omega)
theorem hc_in {n : Nat} (hn : n ≤ 60) {p c : Int32} (h1 : ¬ p < 0) (h2 : ¬ nI n < p) (h3 : ¬ c < 0) (h4 : ¬ nI n - p < c) : ∃ x y, p = nI x ∧ c = nI y ∧ x + y ≤ n := by
  obtain ⟨x, hx, rfl⟩ := nI_of2 (M := nI n) (n := n) (nI_toInt (by omega)) h1 (Int32.not_lt.mp h2)
  rw [pk_sub hx] at h4
  obtain ⟨y, hy, rfl⟩ := nI_of2 (M := nI (n - x)) (n := n - x) (nI_toInt (by omega)) h3 (Int32.not_lt.mp h4)
  exact ⟨x, y, rfl, rfl, by omega⟩
theorem aCp_i {sh : Sh} {a b n0 n1 x y n : Nat} (ha : sh[a]? = some (1, n0)) (hb : sh[b]? = some (1, n1)) (h1 : x + n ≤ n0) (h2 : y + n ≤ n1) (h3 : n0 < 1000) (h4 : n1 < 1000) : aCp sh a (nI x) b (nI y) (nI n) = true := by
  unfold aCp
  rw [ha, hb]
  simp [nI_pos (show x < 2 ^ 31 by omega), nI_pos (show y < 2 ^ 31 by omega), nI_pos (show n < 2 ^ 31 by omega), nI_clamp (show x < 2 ^ 31 by omega), nI_clamp (show y < 2 ^ 31 by omega), nI_clamp (show n < 2 ^ 31 by omega), h1, h2]
theorem In0.copyc {h k : Hp} {d w C K T M R : Nat} (I : In0 h k d w C K T M R) {i x j y n : Nat} (hi : i < 4) (hj : j < 4) (h1 : x + n ≤ 60) (h2 : y + n ≤ 60) : In0 (pC h (68 + 2 * i) (68 + 2 * j) x y n) (cp2 k (60 * i + x) (60 * j + y) 0 n) d w C K T M R := by
  refine I.shts rfl rfl (fun q z hq => ?_) (fun q z hq => ?_) (fun z hz => ?_)
  · show (if _ = _ then _ else _) = _
    rw [if_neg (by omega)]
  · rw [cp2_1, if_neg (by omega)]
  · obtain ⟨t1, t2, t3⟩ := I.sh hz
    have f4 : ¬ 67 + 2 * z = 68 + 2 * j := by omega
    have g : ∀ s, (pC h (68 + 2 * i) (68 + 2 * j) x y n).1 (67 + 2 * z) s = h.1 (67 + 2 * z) s := fun s => by
      show (if _ = _ then _ else _) = _
      rw [if_neg f4]
    have g1 : ∀ s, (cp2 k (60 * i + x) (60 * j + y) 0 n).1 1 s = k.1 1 s := fun s => by rw [cp2_1, if_neg (by omega)]
    have g2 : ∀ s, (cp2 k (60 * i + x) (60 * j + y) 0 n).1 2 s = k.1 2 s := fun s => by rw [cp2_1, if_neg (by omega)]
    rw [g, g, g1, g2]
    refine ⟨t1, t2, fun s hs => ?_⟩
    have gb : (pC h (68 + 2 * i) (68 + 2 * j) x y n).1 (68 + 2 * z) s = if 68 + 2 * z = 68 + 2 * j then va_cpy (h.1 (68 + 2 * i)) (h.1 (68 + 2 * j)) x y n s else h.1 (68 + 2 * z) s := rfl
    rw [gb, cp2_1]
    by_cases e : z = j
    · subst e
      rw [if_pos rfl]
      by_cases e2 : y ≤ s ∧ s < y + n
      · rw [if_pos (by omega)]
        have e3 : va_cpy (h.1 (68 + 2 * i)) (h.1 (68 + 2 * z)) x y n s = h.1 (68 + 2 * i) (x + (s - y)) := by
          unfold va_cpy
          rw [if_pos e2]
        rw [e3, show 60 * i + x + (60 * z + s - (60 * z + y)) = 60 * i + (x + (s - y)) by omega]
        exact (I.sh hi).2.2 _ (by omega)
      · rw [if_neg (by omega)]
        have e3 : va_cpy (h.1 (68 + 2 * i)) (h.1 (68 + 2 * z)) x y n s = h.1 (68 + 2 * z) s := by
          unfold va_cpy
          rw [if_neg e2]
        rw [e3]
        exact t3 s hs
    · rw [if_neg (by omega), if_neg (by omega)]
      exact t3 s hs
set_option maxHeartbeats 2000000 in
theorem st_copy : ∀ a b c d' e' : Int32, SP Inv (fun h => F_X6_copy 0 a b c d' e' h) (fun k => F_X7_copy 0 a b c d' e' k) := by
  rintro p0 p1 p2 p3 p4 h k ⟨d, w, C, K, T, M, R, I⟩
  replace I := I.fault 0
  dsimp only
  unfold F_X6_copy F_X7_copy
  simp only [nm_x]
  generalize pI h 0 7 0 = h at I ⊢
  generalize pI k 0 0 0 = k at I ⊢
  have hM := I.2.2.2.1
  unfold RM at hM
  rcases sheet_q p0 h k with ⟨e1, e2⟩ | ⟨i, hi, rfl, e1, e2⟩
  · rw [e1, e2]
    exact ⟨-1, h, k, rfl, rfl, d, w, C, K, T, M, R, I⟩
  rw [e1, e2]
  simp only [bnd_s, if_neg (show ¬ (1 : Int32) = 0 by decide)]
  rcases sheet_q p2 h k with ⟨e1, e2⟩ | ⟨j, hj, rfl, e1, e2⟩
  · rw [e1, e2]
    exact ⟨-1, h, k, rfl, rfl, d, w, C, K, T, M, R, I⟩
  rw [e1, e2]
  obtain ⟨r1, r2, r3, r4, r5, r6⟩ := I.2.2.1.sheet hi
  obtain ⟨-, v2, v3, v4, v5, -⟩ := I.2.2.1.sheet hj
  have a1 := aRn_i (kd := 2) r6 hi (by decide)
  have a2 := aRn_i (kd := 2) r6 hj (by decide)
  have b1 := aIn_i sM.1 hi (by decide)
  have b2 := aIn_i sM.2.1 hi (by decide)
  have b3 := aIn_i sM.1 hj (by decide)
  have b4 := aIn_i sM.2.1 hj (by decide)
  obtain ⟨⟨x, hx, ex⟩, s2, s3⟩ := I.sh hi
  obtain ⟨⟨x', hx', ex'⟩, s2', s3'⟩ := I.sh hj
  simp only [bnd_s, if_neg (show ¬ (1 : Int32) = 0 by decide), r1, r2, r4, v2, v4, a1, a2, b1, b2, b3, b4, hM, gO_s, ck_t, ob_s, cl_i (show i < 2 ^ 31 by omega), cl_i (show j < 2 ^ 31 by omega), hasNothing_x, hasCells_x, faultyX, failsM]
  rcases s2 with ⟨u1, u2⟩ | ⟨n, hn, u1, u2, u3⟩
  · unfold F_X6_copy_J53 F_X7_copy_J43
    simp only [u1, u2, if_neg (show ¬ (0 : Int32) ≤ -9 by decide), if_neg (show ¬ (1 : Int32) = 0 by decide), if_true, faultyX, failsM, bnd_s]
    exact ⟨_, _, _, rfl, rfl, d, w, C, K, T, M, R, I.fault 1⟩
  rw [ex] at u3
  simp only [u1, u2, u3, ex, if_pos (nI_pos' (show n < 2 ^ 31 by omega)), if_neg (nIne9 (show x < 2 ^ 31 by omega)), if_true]
  rcases s2' with ⟨u1', u2'⟩ | ⟨n', hn', u1', u2', u3'⟩
  · unfold F_X6_copy_J53 F_X7_copy_J43
    simp only [u1', u2', if_neg (show ¬ (0 : Int32) ≤ -9 by decide), if_neg (show ¬ (1 : Int32) = 0 by decide), if_true, faultyX, failsM, bnd_s]
    exact ⟨_, _, _, rfl, rfl, d, w, C, K, T, M, R, I.fault 1⟩
  rw [ex'] at u3'
  simp only [u1', u2', u3', ex', if_pos (nI_pos' (show n' < 2 ^ 31 by omega)), if_neg (nIne9 (show x' < 2 ^ 31 by omega)), if_true]
  by_cases cl : nI x = nI x'
  · simp only [if_pos cl]
    unfold F_X7_copy_J109 F_X7_copy_J110 F_X6_copy_J101 F_X7_copy_J144 F_X7_copy_J161
    simp only [hM, ob_s, b2, b4, ck_t, cl_i (show i < 2 ^ 31 by omega), cl_i (show j < 2 ^ 31 by omega), u2, u2', if_neg (show ¬ (1 : Int32) = 0 by decide), if_true, faultyX, failsM, bnd_s]
    unfold hcv
    by_cases c1 : p1 < 0
    · simp only [if_pos c1, if_true]
      exact ⟨_, _, _, rfl, rfl, d, w, C, K, T, M, R, I.fault 3⟩
    by_cases c2 : p3 < 0
    · simp only [if_neg c1, if_pos c2, if_true, ite_self]
      exact ⟨_, _, _, rfl, rfl, d, w, C, K, T, M, R, I.fault 3⟩
    by_cases c3 : p4 < 0
    · simp only [if_neg c1, if_neg c2, if_pos c3, if_true, ite_self]
      exact ⟨_, _, _, rfl, rfl, d, w, C, K, T, M, R, I.fault 3⟩
    by_cases c4 : nI n < p1
    · simp only [if_neg c1, if_neg c2, if_neg c3, if_pos c4, if_true, ite_self]
      exact ⟨_, _, _, rfl, rfl, d, w, C, K, T, M, R, I.fault 3⟩
    by_cases c5 : nI n' < p3
    · simp only [if_neg c1, if_neg c2, if_neg c3, if_neg c4, if_pos c5, if_true, ite_self]
      exact ⟨_, _, _, rfl, rfl, d, w, C, K, T, M, R, I.fault 3⟩
    by_cases c6 : nI n - p1 < p4
    · simp only [if_neg c1, if_neg c2, if_neg c3, if_neg c4, if_neg c5, if_pos c6, if_true, ite_self]
      exact ⟨_, _, _, rfl, rfl, d, w, C, K, T, M, R, I.fault 3⟩
    by_cases c7 : nI n' - p3 < p4
    · simp only [if_neg c1, if_neg c2, if_neg c3, if_neg c4, if_neg c5, if_neg c6, if_pos c7, if_neg (Int32.not_le.mpr c7), if_true, ite_self, if_neg (show ¬ (1 : Int32) = 0 by decide)]
      exact ⟨_, _, _, rfl, rfl, d, w, C, K, T, M, R, I.fault 3⟩
    simp only [if_neg c1, if_neg c2, if_neg c3, if_neg c4, if_neg c5, if_neg c6, if_neg c7, if_pos (Int32.not_lt.mp c7), if_neg (show ¬ (1 : Int32) = 0 by decide), r3, v3, ob_s]
    obtain ⟨x1, y1, rfl, rfl, g1⟩ := hc_in hn c1 c4 c3 c6
    obtain ⟨x3, y3, rfl, e9, g3⟩ := hc_in hn' c2 c5 c3 c7
    have e8 : y1 = y3 := (nI_eq (by omega) (by omega)).mp e9
    subst e8
    rw [aCp_i r5 v5 (show x1 + y1 ≤ 60 by omega) (show x3 + y1 ≤ 60 by omega) (by decide) (by decide), ck_t]
    simp only [cl_i (show x1 < 2 ^ 31 by omega), cl_i (show x3 < 2 ^ 31 by omega), cl_i (show y1 < 2 ^ 31 by omega)]
    have I2 := I.copyc hi hj (show x1 + y1 ≤ 60 by omega) (show x3 + y1 ≤ 60 by omega)
    by_cases c8 : nI x3 ≤ nI x1
    · rw [if_pos c8]
      have h8 : x3 ≤ x1 := (nI_leI (by omega) (by omega)).mp c8
      have h1 := copy_F (k := k) I.2.2.2.1 (i := i) (x := x1) (j := j) (y := x3) (n := y1) (by omega) (by omega) (by rcases Nat.lt_trichotomy i j with q | q | q <;> omega) FU 0 (by omega) (by unfold FU; omega)
      rw [cp2_0, nI_0] at h1
      rw [h1]
      exact ⟨_, _, _, rfl, rfl, d, w, C, K, T, M, R, I2⟩
    · rw [if_neg c8]
      have h8 : x1 < x3 := by
        rcases Nat.lt_or_ge x1 x3 with q | q
        · exact q
        · exact absurd (nI_le q (by omega)) c8
      have h1 := copy_B (k := k) I.2.2.2.1 (i := i) (x := x1) (j := j) (y := x3) (n := y1) (by omega) (by omega) (by rcases Nat.lt_trichotomy i j with q | q | q <;> omega) FU 0 (by omega) (by unfold FU; omega)
      rw [Nat.sub_zero, cp2_0, nI_0] at h1
      rw [h1]
      exact ⟨_, _, _, rfl, rfl, d, w, C, K, T, M, R, I2⟩
  · simp only [if_neg cl]
    exact ⟨_, _, _, rfl, rfl, d, w, C, K, T, M, R, I.fault 2⟩
