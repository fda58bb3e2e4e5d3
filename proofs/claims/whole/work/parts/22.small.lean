theorem In0.fault {h k : Hp} {d w C K T M R : Nat} (I : In0 h k d w C K T M R) (v : Int32) : In0 (pI h 0 7 v) (pI k 0 0 v) d w C K T M R := by
  have hd : 0 < d := by rcases I.1 with rfl | rfl <;> decide
  refine I.frame rfl rfl rfl ?_ (hs_off (by decide)) (ks_off (by decide)) (dv_off (by omega)) (kd_off (by decide))
  rw [pI_1, pI_1, if_neg (by decide), if_neg (by decide)]
  exact I.2.2.2.2.1.2
theorem In0.trace {h k : Hp} {d w C K T M R : Nat} (I : In0 h k d w C K T M R) (v : Int32) : In0 (pI h 0 6 v) (pI k 0 1 v) d w C K T M R := by
  have hd : 0 < d := by rcases I.1 with rfl | rfl <;> decide
  refine I.frame rfl rfl ?_ rfl (hs_off (by decide)) (ks_off (by decide)) (dv_off (by omega)) (kd_off (by decide))
  rw [pI_1, pI_1, if_neg (by decide), if_neg (by decide)]
  exact I.2.2.2.2.1.1
theorem xrange (n : Nat) (hn : n < 2 ^ 31) (x : Int32) : (x < 0 ∨ (¬ x < 0 ∧ nI n ≤ x)) ∨ ∃ i, i < n ∧ x = nI i := by
  by_cases h0 : x < 0
  · exact Or.inl (Or.inl h0)
  · rcases pk_ix x hn with q | q | q
    · exact absurd q h0
    · exact Or.inl (Or.inr ⟨h0, q⟩)
    · exact Or.inr q
theorem nI_le7 {n : Nat} (hn : n + 1 < 2 ^ 31) (x : Int32) (h0 : ¬ x < 0) : nI n < x ↔ nI (n + 1) ≤ x := by
  rw [Int32.lt_iff_toInt_lt, Int32.le_iff_toInt_le, nI_toInt (by omega), nI_toInt hn]
  omega
theorem mWithin0 {k : Hp} (n : Nat) (hn : n + 1 < 2 ^ 31) (x : Int32) : (x < 0 ∨ (¬ x < 0 ∧ nI (n + 1) ≤ x)) ∧ F_X7_within x 0 (nI n) k = some (0, k) ∨ ∃ i, i < n + 1 ∧ x = nI i ∧ F_X7_within x 0 (nI n) k = some (1, k) := by
  rw [mWithin]
  rcases xrange (n + 1) hn x with (q | ⟨q, q2⟩) | ⟨i, hi, rfl⟩
  · left
    refine ⟨Or.inl q, ?_⟩
    rw [if_pos q]
  · left
    refine ⟨Or.inr ⟨q, q2⟩, ?_⟩
    rw [if_neg q, if_pos ((nI_le7 hn x q).mpr q2)]
  · right
    refine ⟨i, hi, rfl, ?_⟩
    rw [if_neg (nI_pos (by omega)), if_neg (nI_nlt (by omega) (by omega))]
theorem day_q (x : Int32) (h k : Hp) : (F_X6_isDay x h = some (0, h) ∧ F_X7_isDay x k = some (0, k)) ∨ ∃ i, i < 8 ∧ x = nI i ∧ F_X6_isDay x h = some (1, h) ∧ F_X7_isDay x k = some (1, k) := by
  unfold F_X6_isDay F_X7_isDay
  rcases mWithin0 (k := k) 7 (by decide) x with ⟨q, e⟩ | ⟨i, hi, rfl, e⟩
  · left
    have e2 : F_X7_within x 0 7 k = some (0, k) := e
    rw [e2]
    refine ⟨?_, rfl⟩
    rcases q with q | ⟨q, q2⟩
    · rw [if_pos q]
    · rw [if_neg q, if_pos (show (8 : Int32) ≤ x from q2)]
  · right
    refine ⟨i, hi, rfl, ?_⟩
    have e2 : F_X7_within (nI i) 0 7 k = some (1, k) := e
    rw [e2]
    exact ⟨by rw [if_neg (nI_pos (by omega)), if_neg (show ¬ (8 : Int32) ≤ nI i from nI_ge (b := 8) (by omega) (by decide))], rfl⟩
theorem word_q (x : Int32) (h k : Hp) : (F_X6_isWord x h = some (0, h) ∧ F_X7_isWord x k = some (0, k)) ∨ ∃ i, i < 8 ∧ x = nI i ∧ F_X6_isWord x h = some (1, h) ∧ F_X7_isWord x k = some (1, k) := by
  unfold F_X6_isWord F_X7_isWord
  rcases mWithin0 (k := k) 7 (by decide) x with ⟨q, e⟩ | ⟨i, hi, rfl, e⟩
  · left
    have e2 : F_X7_within x 0 7 k = some (0, k) := e
    rw [e2]
    refine ⟨?_, rfl⟩
    rcases q with q | ⟨q, q2⟩
    · rw [if_pos q]
    · rw [if_neg q, if_pos (show (7 : Int32) < x from (nI_le7 (n := 7) (by decide) x q).mpr q2)]
  · right
    refine ⟨i, hi, rfl, ?_⟩
    have e2 : F_X7_within (nI i) 0 7 k = some (1, k) := e
    rw [e2]
    exact ⟨by rw [if_neg (nI_pos (by omega)), if_neg (show ¬ (7 : Int32) < nI i from nI_nlt (a := 7) (by omega) (by decide))], rfl⟩
theorem st_ofCheese : ∀ a b : Int32, SP Inv (fun h => F_X6_ofCheese 0 a b h) (fun k => F_X7_ofCheese 0 a b k) := by
  rintro a b h k ⟨d, w, C, K, T, M, R, I⟩
  have hS := SD_of I.1
  have hR := I.2.2.1
  have hD := hR.dr I.1
  have hM := I.2.2.2.1
  unfold RC at hR
  unfold SD at hS
  unfold DR at hD
  unfold RM at hM
  dsimp only
  unfold F_X6_ofCheese F_X7_ofCheese
  rcases cheese_q I a with ⟨e1, e2⟩ | ⟨i, hi, rfl, e1, e2⟩
  · rw [e1, e2]
    exact ⟨-1, h, k, rfl, rfl, d, w, C, K, T, M, R, I⟩
  · have h8 := I.K.2.2
    obtain ⟨-, -, -, -, q1, q2, q3, q4⟩ := I.cheese hi
    have a1 := aIn_i hS.2.1 (show i < 4 by omega) (by decide)
    have a2 := aIn_i hS.2.2.1 (show i < 4 by omega) (by decide)
    have a3 := aIn_i hS.2.2.2.1 (show i < 4 by omega) (by decide)
    have a4 := aIn_i hS.2.2.2.2.1 (show i < 4 by omega) (by decide)
    have b4 := aIn_i sM.2.2.2.1 (show i < 4 by omega) (by decide)
    have b5 := aIn_i sM.2.2.2.2.1 (show i < 4 by omega) (by decide)
    have b6 := aIn_i sM.2.2.2.2.2.1 (show i < 4 by omega) (by decide)
    have b7 := aIn_i sM.2.2.2.2.2.2.1 (show i < 4 by omega) (by decide)
    rw [e1, e2]
    simp only [bnd_s, hR, hD, hM, gO_s, hS, ck_t, ob_s, a1, a2, a3, a4, b4, b5, b6, b7, cl_i (show i < 2 ^ 31 by omega), q1, q2, q3, q4, if_neg (show ¬ (1 : Int32) = 0 by decide)]
    refine ⟨if b = 0 then h.1 (d + 1) i else if b = 1 then h.1 (d + 2) i else if b = 2 then h.1 (d + 3) i else if b = 3 then h.1 (d + 4) i else -2, h, k, ?_, ?_, d, w, C, K, T, M, R, I⟩
    · repeat' split
      all_goals rfl
    · repeat' split
      all_goals rfl
theorem leaveX {h : Hp} (v : Int32) : F_X6_leave 0 v h = some ((), pI h 0 6 (31 * h.1 0 6 + v)) := rfl
theorem beginsM {k : Hp} (v : Int32) : F_X7_begins 0 v k = some ((), pI k 0 1 (31 * k.1 0 1 + v)) := rfl
theorem In0.leave {h k : Hp} {d w C K T M R : Nat} (I : In0 h k d w C K T M R) (v : Int32) : In0 (pI h 0 6 (31 * h.1 0 6 + v)) (pI k 0 1 (31 * k.1 0 1 + v)) d w C K T M R := by
  have e := I.2.2.2.2.1.2
  rw [e]
  exact I.trace _
theorem tell_2 (x : Int32) : x + 100 + x = 2 * x + 100 := by
  apply Int32.toBitVec_inj.mp
  simp only [Int32.toBitVec_add, Int32.toBitVec_mul]
  generalize x.toBitVec = y
  have h2 : (2 : Int32).toBitVec = 2#32 := rfl
  have h1 : (100 : Int32).toBitVec = 100#32 := rfl
  rw [h1, h2, BitVec.two_mul]
  rw [BitVec.add_assoc, BitVec.add_comm (100#32) y, ← BitVec.add_assoc]
theorem st_tell : ∀ a : Int32, SP Inv (fun h => F_X6_tell 0 a h) (fun k => F_X7_tell 0 a k) := by
  rintro a h k ⟨d, w, C, K, T, M, R, I⟩
  have hS := SD_of I.1
  have hR := I.2.2.1
  have hD := hR.dr I.1
  have hM := I.2.2.2.1
  unfold RC at hR
  unfold SD at hS
  unfold DR at hD
  unfold RM at hM
  dsimp only
  unfold F_X6_tell F_X7_tell
  rcases cheese_q I a with ⟨e1, e2⟩ | ⟨i, hi, rfl, e1, e2⟩
  · rw [e1, e2]
    exact ⟨-1, h, k, rfl, rfl, d, w, C, K, T, M, R, I⟩
  · have h8 := I.K.2.2
    obtain ⟨⟨x, hx, ex⟩, -, -, -, q1, q2, q3, q4⟩ := I.cheese hi
    have a1 := aIn_i hS.2.1 (show i < 4 by omega) (by decide)
    have a3 := aIn_i hS.2.2.2.1 (show i < 4 by omega) (by decide)
    have b4 := aIn_i sM.2.2.2.1 (show i < 4 by omega) (by decide)
    have b6 := aIn_i sM.2.2.2.2.2.1 (show i < 4 by omega) (by decide)
    rw [e1, e2]
    unfold F_X6_mitedTells F_X6_waxedTells F_X6_plainTells
    simp only [bnd_s, nm_x, hR, hD, hM, gO_s, hS, ck_t, ob_s, a1, a3, b4, b6, cl_i (show i < 2 ^ 31 by omega), q1, q3, if_neg (show ¬ (1 : Int32) = 0 by decide), leaveX, beginsM]
    by_cases c1 : h.1 (d + 1) i = 1
    · simp only [if_pos c1]
      exact ⟨_, _, _, rfl, rfl, d, w, C, K, T, M, R, (I.leave 2).leave 1⟩
    · by_cases c2 : h.1 (d + 1) i = 2
      · simp only [if_neg c1, if_pos c2, tell_2]
        exact ⟨_, _, _, rfl, rfl, d, w, C, K, T, M, R, (((I.leave 3).leave 2).leave 1).leave 1⟩
      · simp only [if_neg c1, if_neg c2]
        exact ⟨_, _, _, rfl, rfl, d, w, C, K, T, M, R, I.leave 1⟩
theorem st_tap : ∀ a : Int32, SP Inv (fun h => F_X6_tap 0 a h) (fun k => F_X7_tap 0 a k) := by
  rintro a h k ⟨d, w, C, K, T, M, R, I⟩
  have hS := SD_of I.1
  have hR := I.2.2.1
  have hD := hR.dr I.1
  have hM := I.2.2.2.1
  unfold RC at hR
  unfold SD at hS
  unfold DR at hD
  unfold RM at hM
  dsimp only
  unfold F_X6_tap F_X7_tap
  rcases cheese_q I a with ⟨e1, e2⟩ | ⟨i, hi, rfl, e1, e2⟩
  · rw [e1, e2]
    exact ⟨-1, h, k, rfl, rfl, d, w, C, K, T, M, R, I⟩
  · have h8 := I.K.2.2
    obtain ⟨⟨x, hx, ex⟩, -, -, -, q1, q2, q3, q4⟩ := I.cheese hi
    have a1 := aIn_i hS.2.1 (show i < 4 by omega) (by decide)
    have b4 := aIn_i sM.2.2.2.1 (show i < 4 by omega) (by decide)
    rw [e1, e2]
    unfold F_X7_tap_J26
    simp only [bnd_s, nm_x, hR, hD, hM, gO_s, hS, ck_t, ob_s, a1, b4, cl_i (show i < 2 ^ 31 by omega), q1, if_neg (show ¬ (1 : Int32) = 0 by decide), leaveX, beginsM, pI_2, pI_1, show ¬ ((4 : Nat) = 0 ∧ i = 1) by omega, if_false]
    by_cases c2 : h.1 (d + 1) i = 2
    · simp only [if_pos c2]
      exact ⟨_, _, _, rfl, rfl, d, w, C, K, T, M, R, I.leave 5⟩
    · simp only [if_neg c2]
      exact ⟨_, _, _, rfl, rfl, d, w, C, K, T, M, R, I.leave 4⟩
theorem faultyX {h : Hp} (v : Int32) : F_X6_faulty 0 v h = some (-10 - v, pI h 0 7 v) := rfl
theorem failsM {k : Hp} (v : Int32) : F_X7_fails 0 v k = some (-10 - v, pI k 0 0 v) := rfl
theorem st_as : ∀ a b : Int32, SP Inv (fun h => F_X6_as 0 a b h) (fun k => F_X7_as 0 a b k) := by
  rintro a b h k ⟨d, w, C, K, T, M, R, I⟩
  replace I := I.fault 0
  dsimp only
  unfold F_X6_as F_X7_as
  simp only [nm_x]
  generalize pI h 0 7 0 = h at I ⊢
  generalize pI k 0 0 0 = k at I ⊢
  have hS := SD_of I.1
  have hR := I.2.2.1
  have hD := hR.dr I.1
  have hM := I.2.2.2.1
  unfold RC at hR
  unfold SD at hS
  unfold DR at hD
  unfold RM at hM
  rcases cheese_q I a with ⟨e1, e2⟩ | ⟨i, hi, rfl, e1, e2⟩
  · rw [e1, e2]
    exact ⟨-1, h, k, rfl, rfl, d, w, C, K, T, M, R, I⟩
  · have h8 := I.K.2.2
    obtain ⟨⟨x, hx, ex⟩, -, -, -, q1, q2, q3, q4⟩ := I.cheese hi
    have a1 := aIn_i hS.2.1 (show i < 4 by omega) (by decide)
    have b4 := aIn_i sM.2.2.2.1 (show i < 4 by omega) (by decide)
    rw [e1, e2]
    simp only [bnd_s, nm_x, hR, hD, hM, gO_s, hS, ck_t, ob_s, a1, b4, cl_i (show i < 2 ^ 31 by omega), q1, if_neg (show ¬ (1 : Int32) = 0 by decide), faultyX, failsM, mWithin]
    by_cases c1 : b < 0
    · simp only [if_pos c1]
      exact ⟨_, _, _, rfl, rfl, d, w, C, K, T, M, R, I⟩
    · by_cases c2 : 2 < b
      · simp only [if_neg c1, if_pos c2, if_neg (Int32.not_le.mpr c2)]
        exact ⟨_, _, _, rfl, rfl, d, w, C, K, T, M, R, I⟩
      · simp only [if_neg c1, if_neg c2, if_pos (Int32.not_lt.mp c2)]
        by_cases c3 : b ≤ h.1 (d + 1) i
        · simp only [if_pos c3, if_neg (Int32.not_lt.mpr c3)]
          exact ⟨_, _, _, rfl, rfl, d, w, C, K, T, M, R, I⟩
        · simp only [if_neg c3, if_pos (Int32.not_le.mp c3)]
          exact ⟨_, _, _, rfl, rfl, d, w, C, K, T, M, R, I.fault 2⟩
