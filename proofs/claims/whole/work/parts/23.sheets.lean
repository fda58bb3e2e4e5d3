theorem RC.sheet {h : Hp} {d w : Nat} (hR : RC h d w) {i : Nat} (hi : i < 4) : h.2 0 0 = some 1 ∧ h.2 1 i = some (67 + 2 * i) ∧ h.2 (67 + 2 * i) 0 = some (68 + 2 * i) ∧ isO shC (67 + 2 * i) 1 = true ∧ shC[68 + 2 * i]? = some (1, 60) ∧ shC[1]? = some (2, 4) := by
  unfold RC at hR
  refine ⟨hR.1, ?_⟩
  match i, hi with
  | 0, _ => exact ⟨hR.2.2.2.2.1, by show h.2 67 0 = some 68; simp only [hR], by decide +kernel, by decide +kernel, by decide +kernel⟩
  | 1, _ => exact ⟨by show h.2 1 1 = some 69; simp only [hR], by show h.2 69 0 = some 70; simp only [hR], by decide +kernel, by decide +kernel, by decide +kernel⟩
  | 2, _ => exact ⟨by show h.2 1 2 = some 71; simp only [hR], by show h.2 71 0 = some 72; simp only [hR], by decide +kernel, by decide +kernel, by decide +kernel⟩
  | 3, _ => exact ⟨by show h.2 1 3 = some 73; simp only [hR], by show h.2 73 0 = some 74; simp only [hR], by decide +kernel, by decide +kernel, by decide +kernel⟩
theorem In0.sh {h k : Hp} {d w C K T M R : Nat} (I : In0 h k d w C K T M R) {i : Nat} (hi : i < 4) : (∃ x, x < 3 ∧ h.1 (67 + 2 * i) 1 = nI x) ∧ ((h.1 (67 + 2 * i) 2 = -9 ∧ k.1 1 i = -9) ∨ ∃ n, n ≤ 60 ∧ h.1 (67 + 2 * i) 2 = nI n ∧ k.1 2 i = nI n ∧ k.1 1 i = h.1 (67 + 2 * i) 1) ∧ ∀ j, j < 60 → k.1 3 (60 * i + j) = h.1 (68 + 2 * i) j := by
  have h1 := I.2.2.2.2.2.1 i hi
  unfold Sht at h1
  simp only [hs_r (show 67 ≤ 67 + 2 * i by omega), hs_r (show 67 ≤ 68 + 2 * i by omega), ks_r (show 1 ≤ 1 ∧ 1 ≤ 3 by decide), ks_r (show 1 ≤ 2 ∧ 2 ≤ 3 by decide), ks_r (show 1 ≤ 3 ∧ 3 ≤ 3 by decide)] at h1
  exact h1
/-- both memories changed in the sheets alone -/
theorem In0.shts {h k h' k' : Hp} {d w C K T M R : Nat} (I : In0 h k d w C K T M R) (e1 : h'.2 = h.2) (e2 : k'.2 = k.2) (e3 : ∀ q j, q < 67 → h'.1 q j = h.1 q j) (e4 : ∀ q j, (q < 1 ∨ 3 < q) → k'.1 q j = k.1 q j)
    (e5 : ∀ i, i < 4 → (∃ x, x < 3 ∧ h'.1 (67 + 2 * i) 1 = nI x) ∧ ((h'.1 (67 + 2 * i) 2 = -9 ∧ k'.1 1 i = -9) ∨ ∃ n, n ≤ 60 ∧ h'.1 (67 + 2 * i) 2 = nI n ∧ k'.1 2 i = nI n ∧ k'.1 1 i = h'.1 (67 + 2 * i) 1) ∧ ∀ j, j < 60 → k'.1 3 (60 * i + j) = h'.1 (68 + 2 * i) j) : In0 h' k' d w C K T M R := by
  obtain ⟨a1, a2, a3, a4, a5, a6, a7⟩ := I
  refine ⟨a1, a2, RC_c e1 a3, RM_c e2 a4, ?_, ?_, ?_⟩
  · rw [e3 0 7 (by decide), e3 0 6 (by decide), e4 0 0 (by decide), e4 0 1 (by decide)]
    exact a5
  · intro i hi
    unfold Sht
    simp only [hs_r (show 67 ≤ 67 + 2 * i by omega), hs_r (show 67 ≤ 68 + 2 * i by omega), ks_r (show 1 ≤ 1 ∧ 1 ≤ 3 by decide), ks_r (show 1 ≤ 2 ∧ 2 ≤ 3 by decide), ks_r (show 1 ≤ 3 ∧ 3 ≤ 3 by decide)]
    exact e5 i hi
  · have q1 : dv h' d = dv h d := by
      funext x y
      unfold dv
      split
      · rw [e3]
        rcases a1 with rfl | rfl <;> omega
      · rfl
    have q2 : kd k' = kd k := by
      funext x y
      unfold kd
      split
      · rw [e4]
        omega
      · rfl
    rw [q1, q2]
    exact a7
theorem sheet_q (x : Int32) (h k : Hp) : (F_X6_isSheet x h = some (0, h) ∧ F_X7_isSheet x k = some (0, k)) ∨ ∃ i, i < 4 ∧ x = nI i ∧ F_X6_isSheet x h = some (1, h) ∧ F_X7_isSheet x k = some (1, k) := by
  unfold F_X6_isSheet F_X7_isSheet
  rcases mWithin0 (k := k) 3 (by decide) x with ⟨q, e⟩ | ⟨i, hi, rfl, e⟩
  · left
    have e2 : F_X7_within x 0 3 k = some (0, k) := e
    rw [e2]
    refine ⟨?_, rfl⟩
    rcases q with q | ⟨q, q2⟩
    · rw [if_pos q]
    · rw [if_neg q, if_pos (show (4 : Int32) ≤ x from q2)]
  · right
    refine ⟨i, hi, rfl, ?_⟩
    have e2 : F_X7_within (nI i) 0 3 k = some (1, k) := e
    rw [e2]
    exact ⟨by rw [if_neg (nI_pos (by omega)), if_neg (show ¬ (4 : Int32) ≤ nI i from nI_ge (b := 4) (by omega) (by decide))], rfl⟩
theorem lane_q (x : Int32) (h k : Hp) : (F_X6_isLane x h = some (0, h) ∧ F_X7_isSort x k = some (0, k)) ∨ ∃ i, i < 3 ∧ x = nI i ∧ F_X6_isLane x h = some (1, h) ∧ F_X7_isSort x k = some (1, k) := by
  unfold F_X6_isLane F_X7_isSort
  rcases mWithin0 (k := k) 2 (by decide) x with ⟨q, e⟩ | ⟨i, hi, rfl, e⟩
  · left
    have e2 : F_X7_within x 0 2 k = some (0, k) := e
    rw [e2]
    refine ⟨?_, rfl⟩
    rcases q with q | ⟨q, q2⟩
    · rw [if_pos q]
    · rw [if_neg q, if_pos (show (2 : Int32) < x from (nI_le7 (n := 2) (by decide) x q).mpr q2)]
  · right
    refine ⟨i, hi, rfl, ?_⟩
    have e2 : F_X7_within (nI i) 0 2 k = some (1, k) := e
    rw [e2]
    exact ⟨by rw [if_neg (nI_pos (by omega)), if_neg (show ¬ (2 : Int32) < nI i from nI_nlt (a := 2) (by omega) (by decide))], rfl⟩
theorem nIne9 {n : Nat} (hn : n < 2 ^ 31) : ¬ nI n = -9 := by
  intro h
  have := congrArg Int32.toInt h
  rw [nI_toInt hn] at this
  have e : (-9 : Int32).toInt = -9 := by decide
  rw [e] at this
  omega
theorem st_lose : ∀ a : Int32, SP Inv (fun h => F_X6_lose 0 a h) (fun k => F_X7_lose 0 a k) := by
  rintro a h k ⟨d, w, C, K, T, M, R, I⟩
  have hM := I.2.2.2.1
  unfold RM at hM
  dsimp only
  unfold F_X6_lose F_X7_lose
  rcases sheet_q a h k with ⟨e1, e2⟩ | ⟨i, hi, rfl, e1, e2⟩
  · rw [e1, e2]
    exact ⟨-1, h, k, rfl, rfl, d, w, C, K, T, M, R, I⟩
  · obtain ⟨r1, r2, r3, r4, r5, r6⟩ := I.2.2.1.sheet hi
    obtain ⟨s1, s2, s3⟩ := I.sh hi
    have a1 := aRn_i (kd := 2) r6 hi (by decide)
    have b1 := aIn_i sM.1 hi (by decide)
    have I2 : In0 (pI h (67 + 2 * i) 2 (-9)) (pI k 1 i (-9)) d w C K T M R := by
      refine I.shts rfl rfl (fun q j hq => ?_) (fun q j hq => ?_) (fun j hj => ?_)
      · rw [pI_1, if_neg (by omega)]
      · rw [pI_1, if_neg (by omega)]
      · obtain ⟨t1, t2, t3⟩ := I.sh hj
        have f2 : ¬ 68 + 2 * j = 67 + 2 * i := by omega
        by_cases e : j = i
        · subst e
          exact ⟨by simpa [pI_1] using t1, Or.inl ⟨by simp [pI_1], by simp [pI_1]⟩, fun y hy => by simpa [pI_1, f2] using t3 y hy⟩
        · have f3 : ¬ 2 * j = 2 * i := by omega
          exact ⟨by simpa [pI_1, e] using t1, by simpa [pI_1, e, f3] using t2, fun y hy => by simpa [pI_1, e, f2] using t3 y hy⟩
    rw [e1, e2]
    unfold F_X7_lose_J25 F_X1_empty F_X1_hasNothing
    simp only [bnd_s, nm_x, r1, r2, r4, a1, b1, hM, gO_s, ck_t, ob_s, cl_i (show i < 2 ^ 31 by omega), if_neg (show ¬ (1 : Int32) = 0 by decide)]
    rcases s2 with ⟨u1, u2⟩ | ⟨n, hn, u1, u2, u3⟩
    · simp only [u1, u2, if_neg (show ¬ (0 : Int32) ≤ -9 by decide), bnd_s, if_neg (show ¬ (1 : Int32) = 0 by decide), if_true]
      exact ⟨_, _, _, rfl, rfl, d, w, C, K, T, M, R, I2⟩
    · obtain ⟨x, hx, ex⟩ := s1
      rw [ex] at u3
      simp only [u1, u3, if_pos (nI_pos' (show n < 2 ^ 31 by omega)), bnd_s, if_neg (nIne9 (show x < 2 ^ 31 by omega)), if_neg (show ¬ (1 : Int32) = 0 by decide), if_true]
      exact ⟨_, _, _, rfl, rfl, d, w, C, K, T, M, R, I2⟩
/-! a stretch of one row, all set to v -/
def pB (h : Hp) (q lo hi : Nat) (v : Int32) : Hp := (fun a b => if a = q ∧ lo ≤ b ∧ b < hi then v else h.1 a b, h.2)
theorem pB_1 {h : Hp} {q lo hi a b : Nat} {v : Int32} : (pB h q lo hi v).1 a b = if a = q ∧ lo ≤ b ∧ b < hi then v else h.1 a b := rfl
theorem pB_2 {h : Hp} {q lo hi : Nat} {v : Int32} : (pB h q lo hi v).2 = h.2 := rfl
theorem pB_0 {h : Hp} {q lo : Nat} {v : Int32} : pB h q lo lo v = h := by
  refine Prod.ext ?_ rfl
  funext a b
  rw [pB_1, if_neg (by omega)]
theorem pB_s {h : Hp} {q lo i : Nat} {v : Int32} (hl : lo ≤ i) : pI (pB h q lo i v) q i v = pB h q lo (i + 1) v := by
  refine Prod.ext ?_ rfl
  funext a b
  rw [pI_1, pB_1, pB_1]
  by_cases e : a = q ∧ b = i
  · rw [if_pos e, if_pos (by omega)]
  · rw [if_neg e]
    by_cases e2 : a = q ∧ lo ≤ b ∧ b < i
    · rw [if_pos e2, if_pos (by omega)]
    · rw [if_neg e2, if_neg (by omega)]
theorem fill_L {q n : Nat} (hq : shC[q]? = some (1, n)) (hn : n < 2 ^ 30) (v : Int32) (h : Hp) : ∀ (N i : Nat), i ≤ n → n + 1 ≤ i + N → F_J7_fill_53178_L5 q v (nI n) N (nI i) (pB h q 0 i v) = some ((), pB h q 0 n v) := by
  intro N
  induction N with
  | zero => intro i h1 h2; omega
  | succ N ih =>
    intro i h1 h2
    rw [F_J7_fill_53178_L5]
    by_cases e : i = n
    · subst e
      rw [if_pos (Int32.le_refl _)]
    · rw [if_neg (nI_ge (show i < n by omega) (by omega)), aIn_i hq (by omega) (by omega), ck_t, nm_x, nm_x, cl_i (by omega), pB_s (by omega), nI_1]
      exact ih (i + 1) (by omega) (by omega)
theorem fill_ok {q n : Nat} (hq : shC[q]? = some (1, n)) (hn : n < 1000) (v : Int32) (h : Hp) : F_J7_fill_53178 q v h = some ((), pB h q 0 n v) := by
  unfold F_J7_fill_53178 aLn
  rw [hq]
  simp only [ob_s, nm_x]
  have h1 := fill_L hq (by omega) v h FU 0 (by omega) (by unfold FU; omega)
  rw [pB_0, nI_0] at h1
  exact h1
theorem nI60 : (60 : Int32) = nI 60 := rfl
theorem ix60 (i x : Nat) : (60 : Int32) * nI i + nI x = nI (60 * i + x) := by rw [nI60, pk_mul, nI_add]
theorem sheet_L {k : Hp} (hM : RM k) {i : Nat} (hi : i < 4) : ∀ (N x : Nat), x ≤ 60 → 61 ≤ x + N → F_X7_sheet_L57 0 (nI i) N (nI x) (pB k 3 (60 * i) (60 * i + x) 0) = some (1, pB k 3 (60 * i) (60 * i + 60) 0) := by
  unfold RM at hM
  intro N
  induction N with
  | zero => intro x h1 h2; omega
  | succ N ih =>
    intro x h1 h2
    rw [F_X7_sheet_L57]
    by_cases e : x = 60
    · subst e
      rw [if_pos (show (60 : Int32) ≤ nI 60 from Int32.le_refl _)]
    · rw [if_neg (show ¬ (60 : Int32) ≤ nI x from nI_ge (b := 60) (by omega) (by decide))]
      simp only [pB_2, hM, ob_s, ix60, aIn_i sM.2.2.1 (show 60 * i + x < 240 by omega) (by decide), ck_t, nm_x, cl_i (show 60 * i + x < 2 ^ 31 by omega), pB_s (show 60 * i ≤ 60 * i + x by omega), nI_1]
      exact ih (x + 1) (by omega) (by omega)
theorem st_sheet : ∀ a b c : Int32, SP Inv (fun h => F_X6_sheet 0 a b c h) (fun k => F_X7_sheet 0 a b c k) := by
  rintro a b c h k ⟨d, w, C, K, T, M, R, I⟩
  replace I := I.fault 0
  dsimp only
  unfold F_X6_sheet F_X7_sheet
  simp only [nm_x]
  generalize pI h 0 7 0 = h at I ⊢
  generalize pI k 0 0 0 = k at I ⊢
  have hM := I.2.2.2.1
  unfold RM at hM
  rcases sheet_q a h k with ⟨e1, e2⟩ | ⟨i, hi, rfl, e1, e2⟩
  · rw [e1, e2]
    exact ⟨-1, h, k, rfl, rfl, d, w, C, K, T, M, R, I⟩
  rw [e1, e2]
  simp only [bnd_s, if_neg (show ¬ (1 : Int32) = 0 by decide)]
  rcases lane_q b h k with ⟨e1, e2⟩ | ⟨l, hl, rfl, e1, e2⟩
  · rw [e1, e2]
    exact ⟨-2, h, k, rfl, rfl, d, w, C, K, T, M, R, I⟩
  rw [e1, e2]
  simp only [bnd_s, if_neg (show ¬ (1 : Int32) = 0 by decide)]
  by_cases c1 : c ≤ 60
  · by_cases c2 : 0 ≤ c
    · obtain ⟨n, hn, rfl⟩ := nI_of2 (M := 60) (n := 60) (by decide) (Int32.not_lt.mpr c2) c1
      obtain ⟨r1, r2, r3, r4, r5, r6⟩ := I.2.2.1.sheet hi
      have a1 := aRn_i (kd := 2) r6 hi (by decide)
      have b1 := aIn_i sM.1 hi (by decide)
      have b2 := aIn_i sM.2.1 hi (by decide)
      simp only [if_pos c1, if_pos c2, r1, r2, r4, a1, b1, b2, hM, gO_s, ck_t, ob_s, cl_i (show i < 2 ^ 31 by omega), nm_x, pI_2]
      unfold F_X1_begin
      simp only [nm_x, pI_2, r3, ob_s, fill_ok r5 (by decide), bnd_s]
      have h1 := sheet_L (k := pI (pI k 1 i (nI l)) 2 i (nI n)) I.2.2.2.1 hi FU 0 (by omega) (by unfold FU; omega)
      rw [Nat.add_zero, pB_0, nI_0] at h1
      rw [h1]
      refine ⟨_, _, _, rfl, rfl, d, w, C, K, T, M, R, ?_⟩
      refine I.shts rfl rfl (fun q j hq => ?_) (fun q j hq => ?_) (fun j hj => ?_)
      · rw [pB_1, if_neg (by omega), pI_1, if_neg (by omega), pI_1, if_neg (by omega)]
      · rw [pB_1, if_neg (by omega), pI_1, if_neg (by omega), pI_1, if_neg (by omega)]
      · obtain ⟨t1, t2, t3⟩ := I.sh hj
        have f2 : ¬ 68 + 2 * j = 67 + 2 * i := by omega
        have f4 : ¬ 67 + 2 * j = 68 + 2 * i := by omega
        by_cases e : j = i
        · subst e
          refine ⟨⟨l, hl, by simp [pB_1, pI_1]⟩, Or.inr ⟨n, hn, by simp [pB_1, pI_1], by simp [pB_1, pI_1], by simp [pB_1, pI_1]⟩, fun y hy => ?_⟩
          rw [pB_1, pB_1, if_pos (by omega), if_pos (by omega)]
        · have f3 : ¬ 2 * j = 2 * i := by omega
          refine ⟨by simpa [pB_1, pI_1, e, f3, f4] using t1, by simpa [pB_1, pI_1, e, f3, f4] using t2, fun y hy => ?_⟩
          rw [pB_1, pB_1, if_neg (by omega), if_neg (by omega), pI_1, pI_1, pI_1, pI_1, if_neg (by omega), if_neg (by omega), if_neg (by omega), if_neg (by omega)]
          exact t3 y hy
    · simp only [if_pos c1, if_neg c2, faultyX, failsM, bnd_s]
      exact ⟨_, _, _, rfl, rfl, d, w, C, K, T, M, R, I.fault 4⟩
  · simp only [if_neg c1]
    exact ⟨_, _, _, rfl, rfl, d, w, C, K, T, M, R, I⟩
/-! cells of a sheet -/
def hcv (len p c : Int32) : Int32 := if p < 0 then 0 else if len < p then 0 else if c < 0 then 0 else if len - p < c then 0 else 1
theorem hasCells_x {h : Hp} {q : Nat} {p c : Int32} : F_X1_hasCells q p c h = some (hcv (h.1 q 2) p c, h) := by
  unfold F_X1_hasCells hcv
  repeat' split
  all_goals rfl
def wiv (x a b : Int32) : Int32 := if x < a then 0 else if b < x then 0 else 1
theorem within_x {k : Hp} (x a b : Int32) : F_X7_within x a b k = some (wiv x a b, k) := mWithin x a b
theorem hc1 {n : Nat} (hn : n ≤ 60) (p : Int32) : (hcv (nI n) p 1 = 0 ∧ wiv p 0 (nI n - 1) = 0) ∨ ∃ j, j < n ∧ p = nI j ∧ hcv (nI n) p 1 = 1 ∧ wiv p 0 (nI n - 1) = 1 := by
  have e1 : (nI n - 1).toInt = (n : Int) - 1 := pk_sub_toInt (a := n) (b := 1) (by omega) (by decide)
  unfold hcv wiv
  rcases xrange n (by omega) p with (q | ⟨q, q2⟩) | ⟨j, hj, rfl⟩
  · left
    rw [if_pos q, if_pos q]
    exact ⟨rfl, rfl⟩
  · left
    have q3 : nI n - 1 < p := by
      rw [Int32.lt_iff_toInt_lt, e1]
      rw [Int32.le_iff_toInt_le, nI_toInt (by omega)] at q2
      omega
    rw [if_neg q, if_neg q, if_pos q3]
    refine ⟨?_, rfl⟩
    by_cases q4 : nI n < p
    · rw [if_pos q4]
    · have q5 : p = nI n := by
        apply Int32.toInt_inj.mp
        rw [Int32.lt_iff_toInt_lt] at q4
        rw [Int32.le_iff_toInt_le] at q2
        omega
      subst q5
      rw [if_neg q4, if_neg (by decide), if_pos]
      rw [Int32.lt_iff_toInt_lt, pk_sub_toInt (by omega) (by omega)]
      have : (1 : Int32).toInt = 1 := by decide
      omega
  · right
    have q3 : ¬ nI n - 1 < nI j := by
      rw [Int32.lt_iff_toInt_lt, e1, nI_toInt (by omega)]
      omega
    refine ⟨j, hj, rfl, ?_⟩
    rw [if_neg (nI_pos (by omega)), if_neg (nI_nlt (by omega) (by omega)), if_neg (by decide), if_neg, if_neg (nI_pos (by omega)), if_neg q3]
    · exact ⟨rfl, rfl⟩
    · rw [Int32.lt_iff_toInt_lt, pk_sub_toInt (by omega) (by omega)]
      have : (1 : Int32).toInt = 1 := by decide
      omega
theorem In0.putc {h k : Hp} {d w C K T M R : Nat} (I : In0 h k d w C K T M R) {i j : Nat} (hi : i < 4) (hj : j < 60) (v : Int32) : In0 (pI h (68 + 2 * i) j v) (pI k 3 (60 * i + j) v) d w C K T M R := by
  refine I.shts rfl rfl (fun q x hq => ?_) (fun q x hq => ?_) (fun x hx => ?_)
  · rw [pI_1, if_neg (by omega)]
  · rw [pI_1, if_neg (by omega)]
  · obtain ⟨t1, t2, t3⟩ := I.sh hx
    have f4 : ¬ 67 + 2 * x = 68 + 2 * i := by omega
    refine ⟨by simpa [pI_1, f4] using t1, by simpa [pI_1, f4] using t2, fun y hy => ?_⟩
    rw [pI_1, pI_1]
    by_cases e : x = i ∧ y = j
    · obtain ⟨rfl, rfl⟩ := e
      rw [if_pos ⟨rfl, rfl⟩, if_pos ⟨rfl, rfl⟩]
    · rw [if_neg (by omega), if_neg (by omega)]
      exact t3 y hy
theorem hasNothing_x {h : Hp} {q : Nat} : F_X1_hasNothing q h = some (if 0 ≤ h.1 q 2 then 0 else 1, h) := by
  unfold F_X1_hasNothing
  split <;> rfl
theorem st_put : ∀ a b c : Int32, SP Inv (fun h => F_X6_put 0 a b c h) (fun k => F_X7_put 0 a b c k) := by
  rintro a b c h k ⟨d, w, C, K, T, M, R, I⟩
  replace I := I.fault 0
  dsimp only
  unfold F_X6_put F_X7_put
  simp only [nm_x]
  generalize pI h 0 7 0 = h at I ⊢
  generalize pI k 0 0 0 = k at I ⊢
  have hM := I.2.2.2.1
  unfold RM at hM
  rcases sheet_q a h k with ⟨e1, e2⟩ | ⟨i, hi, rfl, e1, e2⟩
  · rw [e1, e2]
    exact ⟨-1, h, k, rfl, rfl, d, w, C, K, T, M, R, I⟩
  rw [e1, e2]
  obtain ⟨r1, r2, r3, r4, r5, r6⟩ := I.2.2.1.sheet hi
  have a1 := aRn_i (kd := 2) r6 hi (by decide)
  have b1 := aIn_i sM.1 hi (by decide)
  have b2 := aIn_i sM.2.1 hi (by decide)
  obtain ⟨⟨x, hx, ex⟩, s2, s3⟩ := I.sh hi
  simp only [bnd_s, if_neg (show ¬ (1 : Int32) = 0 by decide), r1, r2, r4, a1, b1, b2, hM, gO_s, ck_t, ob_s, cl_i (show i < 2 ^ 31 by omega), hasNothing_x, hasCells_x, within_x, faultyX, failsM]
  rcases s2 with ⟨u1, u2⟩ | ⟨n, hn, u1, u2, u3⟩
  · simp only [u1, u2, if_neg (show ¬ (0 : Int32) ≤ -9 by decide), if_neg (show ¬ (1 : Int32) = 0 by decide), if_true]
    exact ⟨_, _, _, rfl, rfl, d, w, C, K, T, M, R, I.fault 1⟩
  · rw [ex] at u3
    simp only [u1, u2, u3, if_pos (nI_pos' (show n < 2 ^ 31 by omega)), if_neg (nIne9 (show x < 2 ^ 31 by omega)), if_true]
    rcases hc1 hn b with ⟨g1, g2⟩ | ⟨j, hj, rfl, g1, g2⟩
    · simp only [g1, g2, if_true]
      exact ⟨_, _, _, rfl, rfl, d, w, C, K, T, M, R, I.fault 3⟩
    · have a2 := aIn_i r5 (show j < 60 by omega) (by decide)
      have b3 := aIn_i sM.2.2.1 (show 60 * i + j < 240 by omega) (by decide)
      unfold F_X1_cutToLane
      simp only [g1, g2, if_neg (show ¬ (1 : Int32) = 0 by decide), r3, ob_s, ex, ix60, a2, b3, cl_i (show j < 2 ^ 31 by omega), cl_i (show 60 * i + j < 2 ^ 31 by omega), ck_t]
      by_cases c0 : nI x = 0
      · simp only [if_pos c0, bnd_s, a2, ck_t]
        exact ⟨_, _, _, rfl, rfl, d, w, C, K, T, M, R, I.putc hi (by omega) _⟩
      · by_cases c1 : nI x = 1
        · simp only [if_neg c0, if_pos c1, bnd_s, a2, ck_t]
          exact ⟨_, _, _, rfl, rfl, d, w, C, K, T, M, R, I.putc hi (by omega) _⟩
        · simp only [if_neg c0, if_neg c1, bnd_s, a2, ck_t]
          exact ⟨_, _, _, rfl, rfl, d, w, C, K, T, M, R, I.putc hi (by omega) _⟩
theorem lostM {k : Hp} (v : Int32) : F_X7_lost 0 v k = some (-9223372036854775808, pI k 0 0 v) := rfl
theorem st_cell : ∀ a b c : Int32, SP Inv (fun h => F_X6_cell 0 a b c h) (fun k => F_X7_cell 0 a b c k) := by
  rintro a b c h k ⟨d, w, C, K, T, M, R, I⟩
  replace I := I.fault 0
  have hf0 : (pI h 0 7 0).1 0 7 = 0 := rfl
  dsimp only
  unfold F_X6_cell F_X7_cell
  simp only [nm_x]
  generalize pI h 0 7 0 = h at I hf0 ⊢
  generalize pI k 0 0 0 = k at I ⊢
  have hM := I.2.2.2.1
  unfold RM at hM
  rcases sheet_q a h k with ⟨e1, e2⟩ | ⟨i, hi, rfl, e1, e2⟩
  · rw [e1, e2]
    exact ⟨_, h, k, rfl, rfl, d, w, C, K, T, M, R, I⟩
  rw [e1, e2]
  simp only [bnd_s, if_neg (show ¬ (1 : Int32) = 0 by decide)]
  rcases lane_q c h k with ⟨e1, e2⟩ | ⟨l, hl, rfl, e1, e2⟩
  · rw [e1, e2]
    exact ⟨_, h, k, rfl, rfl, d, w, C, K, T, M, R, I⟩
  rw [e1, e2]
  obtain ⟨r1, r2, r3, r4, r5, r6⟩ := I.2.2.1.sheet hi
  have a1 := aRn_i (kd := 2) r6 hi (by decide)
  have b1 := aIn_i sM.1 hi (by decide)
  have b2 := aIn_i sM.2.1 hi (by decide)
  obtain ⟨⟨x, hx, ex⟩, s2, s3⟩ := I.sh hi
  unfold F_X1_faultAs F_X7_cell_J50 F_X6_cell_J63
  simp only [bnd_s, if_neg (show ¬ (1 : Int32) = 0 by decide), r1, r2, r4, a1, b1, b2, hM, gO_s, ck_t, ob_s, cl_i (show i < 2 ^ 31 by omega), hasNothing_x, hasCells_x, within_x, lostM]
  have t7 : ∀ v : Int32, (pI h 0 7 v).1 0 7 = v := fun v => rfl
  have t6 : ∀ v : Int32, (pI h 0 7 v).1 (67 + 2 * i) 2 = h.1 (67 + 2 * i) 2 := fun v => by rw [pI_1, if_neg (by omega)]
  have I0 : In0 (pI h 0 7 0) k d w C K T M R := by
    have : pI h 0 7 0 = h := by
      refine Prod.ext ?_ rfl
      funext p q
      rw [pI_1]
      split
      · next e => rw [e.1, e.2]; exact hf0.symm
      · rfl
    rw [this]
    exact I
  have I3 : ∀ v, In0 (pI (pI h 0 7 0) 0 7 v) (pI k 0 0 v) d w C K T M R := fun v => I0.fault v
  rcases s2 with ⟨u1, u2⟩ | ⟨n, hn, u1, u2, u3⟩
  · simp only [u1, u2, if_neg (show ¬ (0 : Int32) ≤ -9 by decide), if_neg (show ¬ (1 : Int32) = 0 by decide), if_true, t7, nm_x, bnd_s]
    exact ⟨_, _, _, rfl, rfl, d, w, C, K, T, M, R, I.fault 1⟩
  · rw [ex] at u3
    simp only [u1, u2, u3, ex, if_pos (nI_pos' (show n < 2 ^ 31 by omega)), if_neg (nIne9 (show x < 2 ^ 31 by omega)), if_true, nm_x]
    by_cases cl : nI x = nI l
    · simp only [if_pos cl, bnd_s, t7, t6, u1, if_true]
      rcases hc1 hn b with ⟨g1, g2⟩ | ⟨j, hj, rfl, g1, g2⟩
      · simp only [g1, g2, if_true, show (pI (pI h 0 7 0) 0 7 3).1 0 7 = 3 from rfl, if_neg (show ¬ (3 : Int32) = 0 by decide)]
        exact ⟨_, _, _, rfl, rfl, d, w, C, K, T, M, R, I3 3⟩
      · have a2 := aIn_i r5 (show j < 60 by omega) (by decide)
        have b3 := aIn_i sM.2.2.1 (show 60 * i + j < 240 by omega) (by decide)
        have t5 : (pI h 0 7 0).1 (68 + 2 * i) j = h.1 (68 + 2 * i) j := by rw [pI_1, if_neg (by omega)]
        simp only [g1, g2, if_neg (show ¬ (1 : Int32) = 0 by decide), t7, if_true, pI_2, r3, ob_s, ix60, a2, b3, cl_i (show j < 2 ^ 31 by omega), cl_i (show 60 * i + j < 2 ^ 31 by omega), ck_t, t5, s3 j (by omega)]
        exact ⟨_, _, _, rfl, rfl, d, w, C, K, T, M, R, I0⟩
    · simp only [if_neg cl, bnd_s, t7, if_neg (show ¬ (2 : Int32) = 0 by decide)]
      exact ⟨_, _, _, rfl, rfl, d, w, C, K, T, M, R, I.fault 2⟩
