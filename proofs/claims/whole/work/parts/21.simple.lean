theorem st_trace : SP Inv (fun h => F_X6_trace 0 h) (fun k => F_X7_trace 0 k) := by
  rintro h k ⟨d, w, C, K, T, M, R, I⟩
  refine ⟨h.1 0 6, h, k, rfl, ?_, d, w, C, K, T, M, R, I⟩
  show some (k.1 0 1, k) = _
  rw [I.2.2.2.2.1.2]
theorem st_fault : SP Inv (fun h => F_X6_fault 0 h) (fun k => F_X7_fault 0 k) := by
  rintro h k ⟨d, w, C, K, T, M, R, I⟩
  refine ⟨h.1 0 7, h, k, rfl, ?_, d, w, C, K, T, M, R, I⟩
  show some (k.1 0 0, k) = _
  rw [I.2.2.2.2.1.1]
theorem st_many : ∀ a : Int32, SP Inv (fun h => F_X6_many 0 a h) (fun k => F_X7_many 0 a k) := by
  rintro a h k ⟨d, w, C, K, T, M, R, I⟩
  have hS := SD_of I.1
  have hR := I.2.2.1
  have hD := hR.dr I.1
  unfold RC at hR
  unfold SD at hS
  unfold DR at hD
  obtain ⟨c1, c2, -⟩ := I.C
  obtain ⟨k1, k2, -⟩ := I.K
  obtain ⟨t1, t2, -⟩ := I.T
  obtain ⟨m1, m2, -⟩ := I.M
  obtain ⟨r1, r2, -⟩ := I.R
  dsimp only
  unfold F_X6_many F_X7_many
  simp only [hR, hD, gO_s, hS, ck_t, c1, c2, k1, k2, t1, t2, m1, m2, r1, r2]
  refine ⟨if a = 0 then nI T else if a = 1 then nI K else if a = 2 then nI C else if a = 3 then nI M else if a = 4 then nI R else -2, h, k, ?_, ?_, d, w, C, K, T, M, R, I⟩
  · repeat' split
    all_goals rfl
  · repeat' split
    all_goals rfl
/-- facts that nearly every proof opens with -/
theorem In0.cheese {h k : Hp} {d w C K T M R : Nat} (I : In0 h k d w C K T M R) {i : Nat} (hi : i < K) : (∃ x, x < 3 ∧ h.1 (d + 1) i = nI x) ∧ (∃ x, x < C ∧ h.1 (d + 2) i = nI x) ∧ (∃ x, x < 10 ∧ h.1 (d + 3) i = nI x) ∧ (h.1 (d + 4) i = -9 ∨ ∃ x, x < 8 ∧ h.1 (d + 4) i = nI x) ∧ k.1 4 i = h.1 (d + 1) i ∧ k.1 5 i = h.1 (d + 2) i ∧ k.1 6 i = h.1 (d + 3) i ∧ k.1 7 i = h.1 (d + 4) i := I.2.2.2.2.2.2.2.2.2.1 i hi
theorem In0.talk {h k : Hp} {d w C K T M R : Nat} (I : In0 h k d w C K T M R) {i : Nat} (hi : i < T) : (∃ x, x < C ∧ h.1 (d + 5) i = nI x) ∧ (∃ x, 0 < x ∧ x < 10 ∧ h.1 (d + 6) i = nI x) ∧ (∃ x, x < 8 ∧ h.1 (d + 7) i = nI x) ∧ k.1 8 i = h.1 (d + 5) i ∧ k.1 9 i = h.1 (d + 6) i ∧ k.1 10 i = h.1 (d + 7) i := I.2.2.2.2.2.2.2.2.2.2.1 i hi
theorem In0.move {h k : Hp} {d w C K T M R : Nat} (I : In0 h k d w C K T M R) {i : Nat} (hi : i < M) : (∃ x, x < K ∧ h.1 (d + 9) i = nI x) ∧ (∃ x, x < 8 ∧ h.1 (d + 10) i = nI x) ∧ (∃ x, x < C ∧ h.1 (d + 11) i = nI x) ∧ k.1 11 i = h.1 (d + 9) i ∧ k.1 12 i = h.1 (d + 10) i ∧ k.1 13 i = h.1 (d + 11) i := I.2.2.2.2.2.2.2.2.2.2.2.1 i hi
theorem In0.reading {h k : Hp} {d w C K T M R : Nat} (I : In0 h k d w C K T M R) {i : Nat} (hi : i < R) : (∃ x, x < K ∧ h.1 (d + 13) i = nI x) ∧ (∃ x, x < 8 ∧ h.1 (d + 14) i = nI x) ∧ (h.1 (d + 15) i = -9 ∨ ∃ x, x < 8 ∧ h.1 (d + 15) i = nI x) ∧ k.1 19 i = h.1 (d + 13) i ∧ k.1 20 i = h.1 (d + 14) i ∧ k.1 21 i = h.1 (d + 15) i := I.2.2.2.2.2.2.2.2.2.2.2.2.1 i hi
theorem In0.carried {h k : Hp} {d w C K T M R : Nat} (I : In0 h k d w C K T M R) {i t : Nat} (hi : i < K) (ht : t < 8) : h.1 (d + (17 + i)) t = car (dv h d) M (nI i) (nI t) := by
  have h1 := I.2.2.2.2.2.2.2.2.2.2.2.2.2 i hi t ht
  have hK := I.K.2.2
  rw [dv_r (by omega)] at h1
  exact h1
theorem st_ofTalk : ∀ a b : Int32, SP Inv (fun h => F_X6_ofTalk 0 a b h) (fun k => F_X7_ofTalk 0 a b k) := by
  rintro a b h k ⟨d, w, C, K, T, M, R, I⟩
  have hS := SD_of I.1
  have hR := I.2.2.1
  have hD := hR.dr I.1
  have hM := I.2.2.2.1
  unfold RC at hR
  unfold SD at hS
  unfold DR at hD
  unfold RM at hM
  dsimp only
  unfold F_X6_ofTalk F_X7_ofTalk
  rcases talk_q I a with ⟨e1, e2⟩ | ⟨i, hi, rfl, e1, e2⟩
  · rw [e1, e2]
    exact ⟨-1, h, k, rfl, rfl, d, w, C, K, T, M, R, I⟩
  · have h8 := I.T.2.2
    obtain ⟨-, -, -, q1, q2, q3⟩ := I.talk hi
    have a5 := aIn_i hS.2.2.2.2.2.1 (show i < 8 by omega) (by decide)
    have a6 := aIn_i hS.2.2.2.2.2.2.1 (show i < 8 by omega) (by decide)
    have a7 := aIn_i hS.2.2.2.2.2.2.2.1 (show i < 8 by omega) (by decide)
    have b8 := aIn_i sM.2.2.2.2.2.2.2.1 (show i < 8 by omega) (by decide)
    have b9 := aIn_i sM.2.2.2.2.2.2.2.2.1 (show i < 8 by omega) (by decide)
    have b10 := aIn_i sM.2.2.2.2.2.2.2.2.2.1 (show i < 8 by omega) (by decide)
    rw [e1, e2]
    simp only [bnd_s, hR, hD, hM, gO_s, hS, ck_t, ob_s, a5, a6, a7, b8, b9, b10, cl_i (show i < 2 ^ 31 by omega), q1, q2, q3, if_neg (show ¬ (1 : Int32) = 0 by decide)]
    refine ⟨if b = 0 then h.1 (d + 5) i else if b = 1 then h.1 (d + 6) i else if b = 2 then h.1 (d + 7) i else -2, h, k, ?_, ?_, d, w, C, K, T, M, R, I⟩
    · repeat' split
      all_goals rfl
    · repeat' split
      all_goals rfl
